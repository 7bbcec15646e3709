theorem at_M_0_17 {cI cZ : ClassId} {a : Nat → Nat} {x : HC} : (kM cI cZ a x)[17]? = some (a 17, .inl (cI, 5, .inl (x 17))) := rfl
theorem sa_M_0_17 {cI cZ : ClassId} {a : Nat → Nat} {x : HC} {i v : Int32} : (kM cI cZ a x).set 17 (a 17, .inl (cI, 5, .inl (upd (x 17) i.toNatClampNeg v))) = (kM cI cZ a (sa x 17 i v)) := rfl
theorem at_M_0_9 {cI cZ : ClassId} {a : Nat → Nat} {x : HC} : (kM cI cZ a x)[9]? = some (a 9, .inl (cI, 45, .inl (x 9))) := rfl
theorem sa_M_0_9 {cI cZ : ClassId} {a : Nat → Nat} {x : HC} {i v : Int32} : (kM cI cZ a x).set 9 (a 9, .inl (cI, 45, .inl (upd (x 9) i.toNatClampNeg v))) = (kM cI cZ a (sa x 9 i v)) := rfl
def f_X7_stops_b29 (x : HC) (v3 : Int32) (rc29 : Int32 → Option (Int32)) (v4 : Int32) : Option (Int32) := (if (x 0 11) ≤ v4 then some (-1 : Int32) else bd (f_X7_has v3 v4) (fun (q5 : Int32) => (if q5 = 0 then some v4 else nm (v4 + (1 : Int32)) (fun (v6 : Int32) => rc29 v6))))
def f_X7_stops (x : HC) (p1 : Int32) : Option (Int32) := bd (f_X7_isFighter x p1) (fun (q1 : Int32) => (if q1 = 0 then some (-1000000001 : Int32) else bd (f_X7_passable x p1) (fun (q2 : Int32) => (if inb ((35 : Int32) + p1) 141 then nm (q2 ||| (x 1 (Int32.toNatClampNeg ((35 : Int32) + p1)))) (fun (v3 : Int32) => lp (fun _ => none : Int32 → Option (Int32)) (f_X7_stops_b29 x v3) FU (0 : Int32)) else none))))
abbrev RM_X7_stops : Room := { frames := 5, cells := 0, slots := 0, locals := 120 }
set_option maxHeartbeats 4000000 in
set_option maxRecDepth 100000 in
theorem c_X7_stops (l : Launch) (D : va_G) (cI cZ : ClassId) (a : Nat → Nat) (x : HC) (p1 : Int32) (sz : Nat) {r : Int32} (hf : f_X7_stops x p1 = some r) : Met l yX7_stops (wM yX7_stops cX7_stops 4 (some .int)) RM_X7_stops (va_Pc [.ref (a 0), .int p1] (pre D cI cZ (kM cI cZ a x) sz)) (QI0 D (va_A (kM cI cZ a x) sz) (kM cI cZ a x) r) 0 0 (va_A (kM cI cZ a x) sz) := by
  unfold f_X7_stops at hf
  refine Met.ofW (cc := cX7_stops) (maxL := 4) (ret := (some .int)) (by decide) rfl ?_
  intro p e s m args below meth c s₁ B hml hv
  obtain ⟨rfl, hsz, hP, hK, hD0, hnw⟩ := hv
  have hx := B.exec
  have hb := B.bytes
  have hr := B.returns
  have hts := atoms_spec (ws := wM yX7_stops cX7_stops 4 (some .int)) B.pre
  have hG : ∀ w ∈ GW, w.before (([.ref (a 0), .int p1] : List Value).toArray) s = true := fun w h => hts w (List.mem_cons_of_mem _ h)
  have hown : s.vm.findClass RX7 = some m.cls := findClass_of_methodNamed B.named
  have hlocks := B.notSynchronized
  subst hsz
  have hD := hD0.self (sz := s.heap.size)
  generalize hAe : va_A (kM cI cZ a x) s.heap.size = A at hD ⊢
  have hA : ∀ q : Nat, s.heap.size ≤ q → A q := fun q h => by rw [← hAe]; exact Or.inr h
  have hS : va_S A s.heap s.heap [] := va_S.rf
  have hl := lv_entry ([.ref (a 0), .int p1]) (n := 4) (Nat.le_of_ble_eq_true rfl)
  rw [lg_entry_eq]
  generalize (lg_sl ([.ref (a 0), .int p1]) ++ List.replicate (4 - (lg_sl ([.ref (a 0), .int p1])).length) Slot.unset).toArray = ls at hl ⊢
  have hl : lv_has ls 4 [(0, .ref (a 0)), (1, .int p1)] := hl
  show W p l e RM_X7_stops s m (([.ref (a 0), .int p1] : List Value).toArray) below meth c s.heap [] 0 0 (MQ below (QI0 D A (kM cI cZ a x) r) (([.ref (a 0), .int p1] : List Value).toArray) s 0 0 A) (F0 m 0 ls [])
  refine lv_aload_n hx hb dX7_stops_0 rfl (lv_at hl 0 rfl) ?_
  refine lv_iload_n hx hb dX7_stops_1 rfl (lv_at hl 1 rfl) ?_
  obtain ⟨q1, hq1, hf⟩ := bd_x hf
  have hFc := freeS hD hS hA
  refine va_calli (va_runV (As := [.int p1]) (rest := []) ⟨hx, hb, hml, hown, hG⟩ (c_X7_isFighter l D cI cZ a x p1 s.heap.size hq1) (cwV 1 hG (gV g_673 g_674 g_47 g_77 g_675) rfl rfl rfl (by decide +kernel) ⟨Nat.le_of_ble_eq_true rfl, Nat.le_of_ble_eq_true rfl⟩) ⟨pre_blind, va_recv hK hP (ci := 7) (q0 := 0) rfl rfl, fun U hU hW => ⟨rfl, pre_of hP hK hD hnw hU hW⟩⟩ rfl rfl hl.1 rfl (lv_room (Nat.le_of_ble_eq_true rfl)) dX7_stops_2 ⟨Nat.le_of_ble_eq_true rfl, Nat.le_of_ble_eq_true rfl⟩) hS (fun q _ h => hFc q h) hFc (fun v u t H locs ht hvm hw hB hz1 hk1 hS => ?_)
  have hw := hw.symm; subst hw
  obtain ⟨hP1, hD1⟩ := hB
  rw [ht] at hP1
  have hP := hP1
  have hD := hD1.weaken (fun _ q _ h => hFc q.1 h)
  refine lv_if_ne (tgt := 11) hx hb dX7_stops_5 (by decide) (fun cc5 => ?_) (fun cc5 => ?_)
  · have hf := if_f cc5 hf
    refine lv_aload_n hx hb dX7_stops_11 rfl (lv_at hl 0 rfl) ?_
    refine lv_iload_n hx hb dX7_stops_12 rfl (lv_at hl 1 rfl) ?_
    obtain ⟨q2, hq2, hf⟩ := bd_x hf
    have hFc := freeS hD hS hA
    refine va_calli (va_runV (As := [.int p1]) (rest := []) ⟨hx, hb, hml, hown, hG⟩ (c_X7_passable l D cI cZ a x p1 H.size hq2) (cwV 1 hG (gV g_766 g_767 g_60 g_77 g_768) rfl rfl rfl (by decide +kernel) ⟨Nat.le_of_ble_eq_true rfl, Nat.le_of_ble_eq_true rfl⟩) ⟨pre_blind, va_recv hK hP (ci := 7) (q0 := 0) rfl rfl, fun U hU hW => ⟨rfl, pre_of hP hK hD hnw hU hW⟩⟩ rfl rfl hl.1 rfl (lv_room (Nat.le_of_ble_eq_true rfl)) dX7_stops_13 ⟨Nat.le_of_ble_eq_true rfl, Nat.le_of_ble_eq_true rfl⟩) hS (fun q _ h => hFc q h) hFc (fun v u t H locs ht hvm hw hB hz1 hk1 hS => ?_)
    have hw := hw.symm; subst hw
    obtain ⟨hP1, hD1⟩ := hB
    rw [ht] at hP1
    have hP := hP1
    have hD := hD1.weaken (fun _ q _ h => hFc q.1 h)
    refine lv_aload_n hx hb dX7_stops_16 rfl (lv_at hl 0 rfl) ?_
    refine va_get (D := D) (ci := 7) (v := .ref (a 1)) (C := RX7) (T := TX7) (N := 32) hx hb hG inG7 hown hK hP 0 at_M_0_0 rfl 0 (by decide) (hG _ g_564) (fun _ h9 => h9) rfl dX7_stops_17 ?_
    refine lv_bipush (v := (35 : Int32)) hx hb dX7_stops_20 (by decide) ?_
    refine lv_iload_n hx hb dX7_stops_22 rfl (lv_at hl 1 rfl) ?_
    refine lv_iadd hx hb dX7_stops_23 ?_
    obtain ⟨hb24, hf⟩ := gd hf
    refine va_iald (cA := cI) (n := 141) (f := x 1) hx hb hK hP 1 0 at_M_0_1 rfl (inb_in hb24) dX7_stops_24 ?_
    refine lv_ior hx hb dX7_stops_25 ?_
    refine lv_topi (fun v3 ev3 => ?_)
    have hf := nm_x ev3 hf
    refine lv_istore_n (lv' := [(2, .int v3), (0, .ref (a 0)), (1, .int p1)]) hx hb dX7_stops_26 rfl hl (by decide) rfl (fun ls hl => ?_)
    refine lv_iconst (v := (0 : Int32)) hx hb dX7_stops_27 (by decide) ?_
    refine lv_istore_n (lv' := [(3, .int (0 : Int32)), (2, .int v3), (0, .ref (a 0)), (1, .int p1)]) hx hb dX7_stops_28 rfl hl (by decide) rfl (fun ls hl => ?_)
    have L29 : ∀ (n : Nat) (v4 : Int32) (H : Heap) (locs : List Loc) (ls : Array Slot), va_P D vwCl (kM cI cZ a x) H → va_D A (kM cI cZ a x) → va_S A s.heap H locs → lv_has ls 4 [(0, .ref (a 0)), (2, .int v3), (3, .int v4)] → lp (fun _ => none : Int32 → Option (Int32)) (f_X7_stops_b29 x v3) n v4 = some r → W p l e RM_X7_stops s m (([.ref (a 0), .int p1] : List Value).toArray) below meth c H locs 0 0 (MQ below (QI0 D A (kM cI cZ a x) r) (([.ref (a 0), .int p1] : List Value).toArray) s 0 0 A) (F0 m 29 ls []) := by
      intro n
      induction n with
      | zero => intro v4 H locs ls _ _ _ _ hf; cases (show (none : Option (Int32)) = some r from hf)
      | succ n ih29 =>
        intro v4 H locs ls hP hD hS hl hf
        have hf : (f_X7_stops_b29 x v3) (lp (fun _ => none : Int32 → Option (Int32)) (f_X7_stops_b29 x v3) n) v4 = some r := hf
        generalize lp (fun _ => none : Int32 → Option (Int32)) (f_X7_stops_b29 x v3) n = rc29 at ih29 hf
        unfold f_X7_stops_b29 at hf
        refine lv_iload_n hx hb dX7_stops_29 rfl (lv_at hl 2 rfl) ?_
        refine lv_aload_n hx hb dX7_stops_30 rfl (lv_at hl 0 rfl) ?_
        refine va_get (D := D) (ci := 7) (v := .int (x 0 11)) (C := RX7) (T := TX7) (N := 32) hx hb hG inG7 hown hK hP 0 at_M_0_0 rfl 11 (by decide) (hG _ g_575) (fun _ h9 => h9) rfl dX7_stops_31 ?_
        refine lv_icmp_ge (tgt := 53) hx hb dX7_stops_34 (by decide) (fun cc34 => ?_) (fun cc34 => ?_)
        · have hf := if_t cc34 hf
          refine lv_iconst (v := (-1 : Int32)) hx hb dX7_stops_53 (by decide) ?_
          exact W.iret (v := (-1 : Int32)) hx hb hr (fun t ht hW => ⟨⟨(-1 : Int32), (), rfl, Option.some.inj hf, by rw [ht]; exact hP, hD⟩, hS.F ht⟩) hS.2.2 dX7_stops_54
        · have hf := if_f cc34 hf
          refine lv_iload_n hx hb dX7_stops_37 rfl (lv_at hl 1 rfl) ?_
          refine lv_iload_n hx hb dX7_stops_38 rfl (lv_at hl 2 rfl) ?_
          obtain ⟨q5, hq5, hf⟩ := bd_x hf
          have hFc := va_free (wc := []) hD hS hA [] rfl
          refine va_calli (va_runS (As := [.int v3, .int v4]) (rest := []) ⟨hx, hb, hml, hown, hG⟩ (c_X7_has l D cI cZ v3 v4 H.size hq5) (cwS 2 hG (gS g_643 g_644 g_77 g_645) rfl rfl rfl (by decide +kernel) ⟨Nat.le_of_ble_eq_true rfl, Nat.le_of_ble_eq_true rfl⟩) ⟨pre_blind, fun U hU hW => ⟨rfl, pre_of P_nil hK D_nil hnw hU hW⟩⟩ rfl rfl hl.1 rfl (lv_room (Nat.le_of_ble_eq_true rfl)) dX7_stops_39 ⟨Nat.le_of_ble_eq_true rfl, Nat.le_of_ble_eq_true rfl⟩) hS (fun q _ h => hFc q h) hFc (fun v u t H locs ht hvm hw hB hz1 hk1 hS => ?_)
          have hw := hw.symm; subst hw
          obtain ⟨hP1, hD1⟩ := hB
          rw [ht] at hP1
          obtain ⟨hP, hD⟩ := back hP hD [] rfl rfl hk1 hFc hP1 hD1
          refine lv_if_ne (tgt := 47) hx hb dX7_stops_42 (by decide) (fun cc42 => ?_) (fun cc42 => ?_)
          · have hf := if_f cc42 hf
            obtain ⟨v6, ev6⟩ : ∃ y : Int32, y = (v4 + (1 : Int32)) := ⟨_, rfl⟩
            have hf := nm_x ev6 hf
            refine lv_iinc (v := v6) (lv' := [(3, .int v6), (0, .ref (a 0)), (2, .int v3)]) hx hb dX7_stops_47 hl (k := 2) rfl (by rw [ev6]; rfl) (by decide) rfl (fun ls hl => ?_)
            refine lv_goto (tgt := 29) hx hb dX7_stops_50 (by decide) ?_
            exact ih29 v6 _ _ _ hP hD hS (lv_sub hl [1, 2, 0] rfl) hf
          · have hf := if_t cc42 hf
            refine lv_iload_n hx hb dX7_stops_45 rfl (lv_at hl 2 rfl) ?_
            exact W.iret (v := v4) hx hb hr (fun t ht hW => ⟨⟨v4, (), rfl, Option.some.inj hf, by rw [ht]; exact hP, hD⟩, hS.F ht⟩) hS.2.2 dX7_stops_46
    exact L29 FU (0 : Int32) _ _ _ hP hD hS (lv_sub hl [2, 1, 0] rfl) hf
  · have hf := if_t cc5 hf
    refine lv_ldc hx hb hown (hG _ g_676) dX7_stops_8 ?_
    exact W.iret (v := (-1000000001 : Int32)) hx hb hr (fun t ht hW => ⟨⟨(-1000000001 : Int32), (), rfl, Option.some.inj hf, by rw [ht]; exact hP, hD⟩, hS.F ht⟩) hS.2.2 dX7_stops_10
def f_X7_wouldThink (x : HC) (p1 : Int32) (p2 : Int32) : Option (Int32) := (if inb p2 5 then bd (f_X7_reads x p2 (x 17 (Int32.toNatClampNeg p2))) (fun (q1 : Int32) => bd (f_X7_thought x p1 p2) (fun (q2 : Int32) => (if q1 ≤ q2 then bd (f_X7_thought x p1 p2) (fun (q3 : Int32) => some q3) else some q1))) else none)
abbrev RM_X7_wouldThink : Room := { frames := 1, cells := 0, slots := 0, locals := 23 }
set_option maxHeartbeats 4000000 in
set_option maxRecDepth 100000 in
theorem c_X7_wouldThink (l : Launch) (D : va_G) (cI cZ : ClassId) (a : Nat → Nat) (x : HC) (p1 : Int32) (p2 : Int32) (sz : Nat) {r : Int32} (hf : f_X7_wouldThink x p1 p2 = some r) : Met l yX7_wouldThink (wM yX7_wouldThink cX7_wouldThink 4 (some .int)) RM_X7_wouldThink (va_Pc [.ref (a 0), .int p1, .int p2] (pre D cI cZ (kM cI cZ a x) sz)) (QI0 D (va_A (kM cI cZ a x) sz) (kM cI cZ a x) r) 0 0 (va_A (kM cI cZ a x) sz) := by
  unfold f_X7_wouldThink at hf
  refine Met.ofW (cc := cX7_wouldThink) (maxL := 4) (ret := (some .int)) (by decide) rfl ?_
  intro p e s m args below meth c s₁ B hml hv
  obtain ⟨rfl, hsz, hP, hK, hD0, hnw⟩ := hv
  have hx := B.exec
  have hb := B.bytes
  have hr := B.returns
  have hts := atoms_spec (ws := wM yX7_wouldThink cX7_wouldThink 4 (some .int)) B.pre
  have hG : ∀ w ∈ GW, w.before (([.ref (a 0), .int p1, .int p2] : List Value).toArray) s = true := fun w h => hts w (List.mem_cons_of_mem _ h)
  have hown : s.vm.findClass RX7 = some m.cls := findClass_of_methodNamed B.named
  have hlocks := B.notSynchronized
  subst hsz
  have hD := hD0.self (sz := s.heap.size)
  generalize hAe : va_A (kM cI cZ a x) s.heap.size = A at hD ⊢
  have hA : ∀ q : Nat, s.heap.size ≤ q → A q := fun q h => by rw [← hAe]; exact Or.inr h
  have hS : va_S A s.heap s.heap [] := va_S.rf
  have hl := lv_entry ([.ref (a 0), .int p1, .int p2]) (n := 4) (Nat.le_of_ble_eq_true rfl)
  rw [lg_entry_eq]
  generalize (lg_sl ([.ref (a 0), .int p1, .int p2]) ++ List.replicate (4 - (lg_sl ([.ref (a 0), .int p1, .int p2])).length) Slot.unset).toArray = ls at hl ⊢
  have hl : lv_has ls 4 [(0, .ref (a 0)), (1, .int p1), (2, .int p2)] := hl
  show W p l e RM_X7_wouldThink s m (([.ref (a 0), .int p1, .int p2] : List Value).toArray) below meth c s.heap [] 0 0 (MQ below (QI0 D A (kM cI cZ a x) r) (([.ref (a 0), .int p1, .int p2] : List Value).toArray) s 0 0 A) (F0 m 0 ls [])
  refine lv_aload_n hx hb dX7_wouldThink_0 rfl (lv_at hl 0 rfl) ?_
  refine lv_iload_n hx hb dX7_wouldThink_1 rfl (lv_at hl 2 rfl) ?_
  refine lv_aload_n hx hb dX7_wouldThink_2 rfl (lv_at hl 0 rfl) ?_
  refine va_get (D := D) (ci := 7) (v := .ref (a 17)) (C := RX7) (T := TX7) (N := 32) hx hb hG inG7 hown hK hP 0 at_M_0_0 rfl 31 (by decide) (hG _ g_595) (fun _ h9 => h9) rfl dX7_wouldThink_3 ?_
  refine lv_iload_n hx hb dX7_wouldThink_6 rfl (lv_at hl 2 rfl) ?_
  obtain ⟨hb7, hf⟩ := gd hf
  refine va_iald (cA := cI) (n := 5) (f := x 17) hx hb hK hP 17 0 at_M_0_17 rfl (inb_in hb7) dX7_wouldThink_7 ?_
  obtain ⟨q1, hq1, hf⟩ := bd_x hf
  have hFc := freeS hD hS hA
  refine va_calli (va_runV (As := [.int p2, .int (x 17 (Int32.toNatClampNeg p2))]) (rest := []) ⟨hx, hb, hml, hown, hG⟩ (c_X7_reads l D cI cZ a x p2 (x 17 (Int32.toNatClampNeg p2)) s.heap.size hq1) (cwV 2 hG (gV g_680 g_681 g_49 g_77 g_682) rfl rfl rfl (by decide +kernel) ⟨Nat.le_of_ble_eq_true rfl, Nat.le_of_ble_eq_true rfl⟩) ⟨pre_blind, va_recv hK hP (ci := 7) (q0 := 0) rfl rfl, fun U hU hW => ⟨rfl, pre_of hP hK hD hnw hU hW⟩⟩ rfl rfl hl.1 rfl (lv_room (Nat.le_of_ble_eq_true rfl)) dX7_wouldThink_8 ⟨Nat.le_of_ble_eq_true rfl, Nat.le_of_ble_eq_true rfl⟩) hS (fun q _ h => hFc q h) hFc (fun v u t H locs ht hvm hw hB hz1 hk1 hS => ?_)
  have hw := hw.symm; subst hw
  obtain ⟨hP1, hD1⟩ := hB
  rw [ht] at hP1
  have hP := hP1
  have hD := hD1.weaken (fun _ q _ h => hFc q.1 h)
  refine lv_istore_n (lv' := [(3, .int q1), (0, .ref (a 0)), (1, .int p1), (2, .int p2)]) hx hb dX7_wouldThink_11 rfl hl (by decide) rfl (fun ls hl => ?_)
  refine lv_iload_n hx hb dX7_wouldThink_12 rfl (lv_at hl 0 rfl) ?_
  refine lv_aload_n hx hb dX7_wouldThink_13 rfl (lv_at hl 1 rfl) ?_
  refine lv_iload_n hx hb dX7_wouldThink_14 rfl (lv_at hl 2 rfl) ?_
  refine lv_iload_n hx hb dX7_wouldThink_15 rfl (lv_at hl 3 rfl) ?_
  obtain ⟨q2, hq2, hf⟩ := bd_x hf
  have hFc := freeS hD hS hA
  refine va_calli (va_runV (As := [.int p1, .int p2]) (rest := [.int q1]) ⟨hx, hb, hml, hown, hG⟩ (c_X7_thought l D cI cZ a x p1 p2 H.size hq2) (cwV 2 hG (gV g_666 g_667 g_46 g_77 g_668) rfl rfl rfl (by decide +kernel) ⟨Nat.le_of_ble_eq_true rfl, Nat.le_of_ble_eq_true rfl⟩) ⟨pre_blind, va_recv hK hP (ci := 7) (q0 := 0) rfl rfl, fun U hU hW => ⟨rfl, pre_of hP hK hD hnw hU hW⟩⟩ rfl rfl hl.1 rfl (lv_room (Nat.le_of_ble_eq_true rfl)) dX7_wouldThink_16 ⟨Nat.le_of_ble_eq_true rfl, Nat.le_of_ble_eq_true rfl⟩) hS (fun q _ h => hFc q h) hFc (fun v u t H locs ht hvm hw hB hz1 hk1 hS => ?_)
  have hw := hw.symm; subst hw
  obtain ⟨hP1, hD1⟩ := hB
  rw [ht] at hP1
  have hP := hP1
  have hD := hD1.weaken (fun _ q _ h => hFc q.1 h)
  refine lv_icmp_le (tgt := 26) hx hb dX7_wouldThink_19 (by decide) (fun cc19 => ?_) (fun cc19 => ?_)
  · have hf := if_t cc19 hf
    refine lv_aload_n hx hb dX7_wouldThink_26 rfl (lv_at hl 1 rfl) ?_
    refine lv_iload_n hx hb dX7_wouldThink_27 rfl (lv_at hl 2 rfl) ?_
    refine lv_iload_n hx hb dX7_wouldThink_28 rfl (lv_at hl 3 rfl) ?_
    obtain ⟨q3, hq3, hf⟩ := bd_x hf
    have hFc := freeS hD hS hA
    refine va_calli (va_runV (As := [.int p1, .int p2]) (rest := []) ⟨hx, hb, hml, hown, hG⟩ (c_X7_thought l D cI cZ a x p1 p2 H.size hq3) (cwV 2 hG (gV g_666 g_667 g_46 g_77 g_668) rfl rfl rfl (by decide +kernel) ⟨Nat.le_of_ble_eq_true rfl, Nat.le_of_ble_eq_true rfl⟩) ⟨pre_blind, va_recv hK hP (ci := 7) (q0 := 0) rfl rfl, fun U hU hW => ⟨rfl, pre_of hP hK hD hnw hU hW⟩⟩ rfl rfl hl.1 rfl (lv_room (Nat.le_of_ble_eq_true rfl)) dX7_wouldThink_29 ⟨Nat.le_of_ble_eq_true rfl, Nat.le_of_ble_eq_true rfl⟩) hS (fun q _ h => hFc q h) hFc (fun v u t H locs ht hvm hw hB hz1 hk1 hS => ?_)
    have hw := hw.symm; subst hw
    obtain ⟨hP1, hD1⟩ := hB
    rw [ht] at hP1
    have hP := hP1
    have hD := hD1.weaken (fun _ q _ h => hFc q.1 h)
    exact W.iret (v := q3) hx hb hr (fun t ht hW => ⟨⟨q3, (), rfl, Option.some.inj hf, by rw [ht]; exact hP, hD⟩, hS.F ht⟩) hS.2.2 dX7_wouldThink_32
  · have hf := if_f cc19 hf
    refine lv_iload_n hx hb dX7_wouldThink_22 rfl (lv_at hl 0 rfl) ?_
    refine lv_goto (tgt := 32) hx hb dX7_wouldThink_23 (by decide) ?_
    exact W.iret (v := q1) hx hb hr (fun t ht hW => ⟨⟨q1, (), rfl, Option.some.inj hf, by rw [ht]; exact hP, hD⟩, hS.F ht⟩) hS.2.2 dX7_wouldThink_32
def f_X7_gainOf_j78 (rc4 : Int32 → Int32 → Option (Int32)) (v1 : Int32) (v2 : Int32) (v7 : Int32) : Option (Int32) := nm (v1 + v7) (fun (v8 : Int32) => nm (v2 + (1 : Int32)) (fun (v9 : Int32) => rc4 v8 v9))
def f_X7_gainOf_j59 (rc18 : Int32 → Int32 → Option (Int32)) (v6 : Int32) (v10 : Int32) : Option (Int32) := nm (v6 + (1 : Int32)) (fun (v11 : Int32) => rc18 v10 v11)
def f_X7_gainOf_j58 (rc18 : Int32 → Int32 → Option (Int32)) (v6 : Int32)  : Option (Int32) := f_X7_gainOf_j59 rc18 v6 (0 : Int32)
def f_X7_gainOf_j54 (rc18 : Int32 → Int32 → Option (Int32)) (v6 : Int32)  : Option (Int32) := f_X7_gainOf_j59 rc18 v6 (1 : Int32)
def f_X7_gainOf_b18 (x : HC) (p1 : Int32) (rc4 : Int32 → Int32 → Option (Int32)) (v1 : Int32) (v2 : Int32) (rc18 : Int32 → Int32 → Option (Int32)) (v5 : Int32) (v6 : Int32) : Option (Int32) := (if (x 0 6) ≤ v6 then (if v5 = 0 then f_X7_gainOf_j78 rc4 v1 v2 (0 : Int32) else f_X7_gainOf_j78 rc4 v1 v2 (1 : Int32)) else (if v5 = 0 then f_X7_gainOf_j58 rc18 v6 else (if v6 = p1 then f_X7_gainOf_j54 rc18 v6 else bd (f_X7_wouldThink x v2 p1) (fun (q12 : Int32) => bd (f_X7_wouldThink x v2 v6) (fun (q13 : Int32) => (if q12 ≤ q13 then f_X7_gainOf_j58 rc18 v6 else f_X7_gainOf_j54 rc18 v6))))))
def f_X7_gainOf_b4 (x : HC) (p1 : Int32) (rc4 : Int32 → Int32 → Option (Int32)) (v1 : Int32) (v2 : Int32) : Option (Int32) := (if (x 0 5) ≤ v2 then (if inb p1 5 then bd (f_X7_reads x p1 (x 17 (Int32.toNatClampNeg p1))) (fun (q3 : Int32) => (if inb p1 5 then nm (q3 - (x 5 (Int32.toNatClampNeg p1))) (fun (v4 : Int32) => (if v4 ≤ 0 then some (((10 : Int32) * v1) - (0 : Int32)) else some (((10 : Int32) * v1) - ((3 : Int32) * (v4 / (10 : Int32)))))) else none)) else none) else lp (fun _ _ => none : Int32 → Int32 → Option (Int32)) (f_X7_gainOf_b18 x p1 rc4 v1 v2) FU (1 : Int32) (0 : Int32))
def f_X7_gainOf (x : HC) (p1 : Int32) : Option (Int32) := lp (fun _ _ => none : Int32 → Int32 → Option (Int32)) (f_X7_gainOf_b4 x p1) FU (0 : Int32) (0 : Int32)
abbrev RM_X7_gainOf : Room := { frames := 2, cells := 0, slots := 0, locals := 46 }
set_option maxHeartbeats 4000000 in
set_option maxRecDepth 100000 in
theorem c_X7_gainOf (l : Launch) (D : va_G) (cI cZ : ClassId) (a : Nat → Nat) (x : HC) (p1 : Int32) (sz : Nat) {r : Int32} (hf : f_X7_gainOf x p1 = some r) : Met l yX7_gainOf (wM yX7_gainOf cX7_gainOf 6 (some .int)) RM_X7_gainOf (va_Pc [.ref (a 0), .int p1] (pre D cI cZ (kM cI cZ a x) sz)) (QI0 D (va_A (kM cI cZ a x) sz) (kM cI cZ a x) r) 0 0 (va_A (kM cI cZ a x) sz) := by
  unfold f_X7_gainOf at hf
  refine Met.ofW (cc := cX7_gainOf) (maxL := 6) (ret := (some .int)) (by decide) rfl ?_
  intro p e s m args below meth c s₁ B hml hv
  obtain ⟨rfl, hsz, hP, hK, hD0, hnw⟩ := hv
  have hx := B.exec
  have hb := B.bytes
  have hr := B.returns
  have hts := atoms_spec (ws := wM yX7_gainOf cX7_gainOf 6 (some .int)) B.pre
  have hG : ∀ w ∈ GW, w.before (([.ref (a 0), .int p1] : List Value).toArray) s = true := fun w h => hts w (List.mem_cons_of_mem _ h)
  have hown : s.vm.findClass RX7 = some m.cls := findClass_of_methodNamed B.named
  have hlocks := B.notSynchronized
  subst hsz
  have hD := hD0.self (sz := s.heap.size)
  generalize hAe : va_A (kM cI cZ a x) s.heap.size = A at hD ⊢
  have hA : ∀ q : Nat, s.heap.size ≤ q → A q := fun q h => by rw [← hAe]; exact Or.inr h
  have hS : va_S A s.heap s.heap [] := va_S.rf
  have hl := lv_entry ([.ref (a 0), .int p1]) (n := 6) (Nat.le_of_ble_eq_true rfl)
  rw [lg_entry_eq]
  generalize (lg_sl ([.ref (a 0), .int p1]) ++ List.replicate (6 - (lg_sl ([.ref (a 0), .int p1])).length) Slot.unset).toArray = ls at hl ⊢
  have hl : lv_has ls 6 [(0, .ref (a 0)), (1, .int p1)] := hl
  show W p l e RM_X7_gainOf s m (([.ref (a 0), .int p1] : List Value).toArray) below meth c s.heap [] 0 0 (MQ below (QI0 D A (kM cI cZ a x) r) (([.ref (a 0), .int p1] : List Value).toArray) s 0 0 A) (F0 m 0 ls [])
  refine lv_iconst (v := (0 : Int32)) hx hb dX7_gainOf_0 (by decide) ?_
  refine lv_istore_n (lv' := [(2, .int (0 : Int32)), (0, .ref (a 0)), (1, .int p1)]) hx hb dX7_gainOf_1 rfl hl (by decide) rfl (fun ls hl => ?_)
  refine lv_iconst (v := (0 : Int32)) hx hb dX7_gainOf_2 (by decide) ?_
  refine lv_istore_n (lv' := [(3, .int (0 : Int32)), (2, .int (0 : Int32)), (0, .ref (a 0)), (1, .int p1)]) hx hb dX7_gainOf_3 rfl hl (by decide) rfl (fun ls hl => ?_)
  have L4 : ∀ (n : Nat) (v1 : Int32) (v2 : Int32) (H : Heap) (locs : List Loc) (ls : Array Slot), va_P D vwCl (kM cI cZ a x) H → va_D A (kM cI cZ a x) → va_S A s.heap H locs → lv_has ls 6 [(0, .ref (a 0)), (1, .int p1), (2, .int v1), (3, .int v2)] → lp (fun _ _ => none : Int32 → Int32 → Option (Int32)) (f_X7_gainOf_b4 x p1) n v1 v2 = some r → W p l e RM_X7_gainOf s m (([.ref (a 0), .int p1] : List Value).toArray) below meth c H locs 0 0 (MQ below (QI0 D A (kM cI cZ a x) r) (([.ref (a 0), .int p1] : List Value).toArray) s 0 0 A) (F0 m 4 ls []) := by
    intro n
    induction n with
    | zero => intro v1 v2 H locs ls _ _ _ _ hf; cases (show (none : Option (Int32)) = some r from hf)
    | succ n ih4 =>
      intro v1 v2 H locs ls hP hD hS hl hf
      have hf : (f_X7_gainOf_b4 x p1) (lp (fun _ _ => none : Int32 → Int32 → Option (Int32)) (f_X7_gainOf_b4 x p1) n) v1 v2 = some r := hf
      generalize lp (fun _ _ => none : Int32 → Int32 → Option (Int32)) (f_X7_gainOf_b4 x p1) n = rc4 at ih4 hf
      unfold f_X7_gainOf_b4 at hf
      refine lv_iload_n hx hb dX7_gainOf_4 rfl (lv_at hl 3 rfl) ?_
      refine lv_aload_n hx hb dX7_gainOf_5 rfl (lv_at hl 0 rfl) ?_
      refine va_get (D := D) (ci := 7) (v := .int (x 0 5)) (C := RX7) (T := TX7) (N := 32) hx hb hG inG7 hown hK hP 0 at_M_0_0 rfl 5 (by decide) (hG _ g_569) (fun _ h9 => h9) rfl dX7_gainOf_6 ?_
      refine lv_icmp_ge (tgt := 86) hx hb dX7_gainOf_9 (by decide) (fun cc9 => ?_) (fun cc9 => ?_)
      · have hf := if_t cc9 hf
        refine lv_aload_n hx hb dX7_gainOf_86 rfl (lv_at hl 0 rfl) ?_
        refine lv_iload_n hx hb dX7_gainOf_87 rfl (lv_at hl 1 rfl) ?_
        refine lv_aload_n hx hb dX7_gainOf_88 rfl (lv_at hl 0 rfl) ?_
        refine va_get (D := D) (ci := 7) (v := .ref (a 17)) (C := RX7) (T := TX7) (N := 32) hx hb hG inG7 hown hK hP 0 at_M_0_0 rfl 31 (by decide) (hG _ g_595) (fun _ h9 => h9) rfl dX7_gainOf_89 ?_
        refine lv_iload_n hx hb dX7_gainOf_92 rfl (lv_at hl 1 rfl) ?_
        obtain ⟨hb93, hf⟩ := gd hf
        refine va_iald (cA := cI) (n := 5) (f := x 17) hx hb hK hP 17 0 at_M_0_17 rfl (inb_in hb93) dX7_gainOf_93 ?_
        obtain ⟨q3, hq3, hf⟩ := bd_x hf
        have hFc := freeS hD hS hA
        refine va_calli (va_runV (As := [.int p1, .int (x 17 (Int32.toNatClampNeg p1))]) (rest := []) ⟨hx, hb, hml, hown, hG⟩ (c_X7_reads l D cI cZ a x p1 (x 17 (Int32.toNatClampNeg p1)) H.size hq3) (cwV 2 hG (gV g_680 g_681 g_49 g_77 g_682) rfl rfl rfl (by decide +kernel) ⟨Nat.le_of_ble_eq_true rfl, Nat.le_of_ble_eq_true rfl⟩) ⟨pre_blind, va_recv hK hP (ci := 7) (q0 := 0) rfl rfl, fun U hU hW => ⟨rfl, pre_of hP hK hD hnw hU hW⟩⟩ rfl rfl hl.1 rfl (lv_room (Nat.le_of_ble_eq_true rfl)) dX7_gainOf_94 ⟨Nat.le_of_ble_eq_true rfl, Nat.le_of_ble_eq_true rfl⟩) hS (fun q _ h => hFc q h) hFc (fun v u t H locs ht hvm hw hB hz1 hk1 hS => ?_)
        have hw := hw.symm; subst hw
        obtain ⟨hP1, hD1⟩ := hB
        rw [ht] at hP1
        have hP := hP1
        have hD := hD1.weaken (fun _ q _ h => hFc q.1 h)
        refine lv_aload_n hx hb dX7_gainOf_97 rfl (lv_at hl 0 rfl) ?_
        refine va_get (D := D) (ci := 7) (v := .ref (a 5)) (C := RX7) (T := TX7) (N := 32) hx hb hG inG7 hown hK hP 0 at_M_0_0 rfl 8 (by decide) (hG _ g_572) (fun _ h9 => h9) rfl dX7_gainOf_98 ?_
        refine lv_iload_n hx hb dX7_gainOf_101 rfl (lv_at hl 1 rfl) ?_
        obtain ⟨hb102, hf⟩ := gd hf
        refine va_iald (cA := cI) (n := 5) (f := x 5) hx hb hK hP 5 0 at_M_0_5 rfl (inb_in hb102) dX7_gainOf_102 ?_
        refine lv_isub hx hb dX7_gainOf_103 ?_
        refine lv_topi (fun v4 ev4 => ?_)
        have hf := nm_x ev4 hf
        refine lv_istore_n (lv' := [(3, .int v4), (0, .ref (a 0)), (1, .int p1), (2, .int v1)]) hx hb dX7_gainOf_104 rfl hl (by decide) rfl (fun ls hl => ?_)
        refine lv_bipush (v := (10 : Int32)) hx hb dX7_gainOf_105 (by decide) ?_
        refine lv_iload_n hx hb dX7_gainOf_107 rfl (lv_at hl 3 rfl) ?_
        refine lv_imul hx hb dX7_gainOf_108 ?_
        refine lv_iload_n hx hb dX7_gainOf_109 rfl (lv_at hl 0 rfl) ?_
        refine lv_if_le (tgt := 122) hx hb dX7_gainOf_110 (by decide) (fun cc110 => ?_) (fun cc110 => ?_)
        · have hf := if_t cc110 hf
          refine lv_iconst (v := (0 : Int32)) hx hb dX7_gainOf_122 (by decide) ?_
          refine lv_isub hx hb dX7_gainOf_123 ?_
          exact W.iret (v := (((10 : Int32) * v1) - (0 : Int32))) hx hb hr (fun t ht hW => ⟨⟨(((10 : Int32) * v1) - (0 : Int32)), (), rfl, Option.some.inj hf, by rw [ht]; exact hP, hD⟩, hS.F ht⟩) hS.2.2 dX7_gainOf_124
        · have hf := if_f cc110 hf
          refine lv_iconst (v := (3 : Int32)) hx hb dX7_gainOf_113 (by decide) ?_
          refine lv_iload_n hx hb dX7_gainOf_114 rfl (lv_at hl 0 rfl) ?_
          refine lv_bipush (v := (10 : Int32)) hx hb dX7_gainOf_115 (by decide) ?_
          refine lv_idiv hx hb dX7_gainOf_117 (by decide) ?_
          refine lv_imul hx hb dX7_gainOf_118 ?_
          refine lv_goto (tgt := 123) hx hb dX7_gainOf_119 (by decide) ?_
          refine lv_isub hx hb dX7_gainOf_123 ?_
          exact W.iret (v := (((10 : Int32) * v1) - ((3 : Int32) * (v4 / (10 : Int32))))) hx hb hr (fun t ht hW => ⟨⟨(((10 : Int32) * v1) - ((3 : Int32) * (v4 / (10 : Int32)))), (), rfl, Option.some.inj hf, by rw [ht]; exact hP, hD⟩, hS.F ht⟩) hS.2.2 dX7_gainOf_124
      · have hf := if_f cc9 hf
        refine lv_iconst (v := (1 : Int32)) hx hb dX7_gainOf_12 (by decide) ?_
        refine lv_istore (lv' := [(4, .int (1 : Int32)), (0, .ref (a 0)), (1, .int p1), (2, .int v1), (3, .int v2)]) hx hb dX7_gainOf_13 hl (by decide) rfl (fun ls hl => ?_)
        refine lv_iconst (v := (0 : Int32)) hx hb dX7_gainOf_15 (by decide) ?_
        refine lv_istore (lv' := [(5, .int (0 : Int32)), (4, .int (1 : Int32)), (0, .ref (a 0)), (1, .int p1), (2, .int v1), (3, .int v2)]) hx hb dX7_gainOf_16 hl (by decide) rfl (fun ls hl => ?_)
        have L18 : ∀ (n : Nat) (v5 : Int32) (v6 : Int32) (H : Heap) (locs : List Loc) (ls : Array Slot), va_P D vwCl (kM cI cZ a x) H → va_D A (kM cI cZ a x) → va_S A s.heap H locs → lv_has ls 6 [(0, .ref (a 0)), (1, .int p1), (2, .int v1), (3, .int v2), (4, .int v5), (5, .int v6)] → lp (fun _ _ => none : Int32 → Int32 → Option (Int32)) (f_X7_gainOf_b18 x p1 rc4 v1 v2) n v5 v6 = some r → W p l e RM_X7_gainOf s m (([.ref (a 0), .int p1] : List Value).toArray) below meth c H locs 0 0 (MQ below (QI0 D A (kM cI cZ a x) r) (([.ref (a 0), .int p1] : List Value).toArray) s 0 0 A) (F0 m 18 ls []) := by
          intro n
          induction n with
          | zero => intro v5 v6 H locs ls _ _ _ _ hf; cases (show (none : Option (Int32)) = some r from hf)
          | succ n ih18 =>
            intro v5 v6 H locs ls hP hD hS hl hf
            have hf : (f_X7_gainOf_b18 x p1 rc4 v1 v2) (lp (fun _ _ => none : Int32 → Int32 → Option (Int32)) (f_X7_gainOf_b18 x p1 rc4 v1 v2) n) v5 v6 = some r := hf
            generalize lp (fun _ _ => none : Int32 → Int32 → Option (Int32)) (f_X7_gainOf_b18 x p1 rc4 v1 v2) n = rc18 at ih18 hf
            unfold f_X7_gainOf_b18 at hf
            refine lv_iload hx hb dX7_gainOf_18 (lv_at hl 5 rfl) ?_
            refine lv_aload_n hx hb dX7_gainOf_20 rfl (lv_at hl 0 rfl) ?_
            refine va_get (D := D) (ci := 7) (v := .int (x 0 6)) (C := RX7) (T := TX7) (N := 32) hx hb hG inG7 hown hK hP 0 at_M_0_0 rfl 6 (by decide) (hG _ g_570) (fun _ h9 => h9) rfl dX7_gainOf_21 ?_
            refine lv_icmp_ge (tgt := 67) hx hb dX7_gainOf_24 (by decide) (fun cc24 => ?_) (fun cc24 => ?_)
            · have hf := if_t cc24 hf
              refine lv_iload_n hx hb dX7_gainOf_67 rfl (lv_at hl 2 rfl) ?_
              refine lv_iload hx hb dX7_gainOf_68 (lv_at hl 4 rfl) ?_
              have J78 : ∀ (v7 : Int32) (H : Heap) (locs : List Loc) (ls : Array Slot), va_P D vwCl (kM cI cZ a x) H → va_D A (kM cI cZ a x) → va_S A s.heap H locs → lv_has ls 6 [(0, .ref (a 0)), (1, .int p1), (3, .int v2)] → f_X7_gainOf_j78 rc4 v1 v2 v7 = some r → W p l e RM_X7_gainOf s m (([.ref (a 0), .int p1] : List Value).toArray) below meth c H locs 0 0 (MQ below (QI0 D A (kM cI cZ a x) r) (([.ref (a 0), .int p1] : List Value).toArray) s 0 0 A) (F0 m 78 ls [.int v7, .int v1]) := by
                intro v7 H locs ls hP hD hS hl hf
                unfold f_X7_gainOf_j78 at hf
                refine lv_iadd hx hb dX7_gainOf_78 ?_
                refine lv_topi (fun v8 ev8 => ?_)
                have hf := nm_x ev8 hf
                refine lv_istore_n (lv' := [(2, .int v8), (0, .ref (a 0)), (1, .int p1), (3, .int v2)]) hx hb dX7_gainOf_79 rfl hl (by decide) rfl (fun ls hl => ?_)
                obtain ⟨v9, ev9⟩ : ∃ y : Int32, y = (v2 + (1 : Int32)) := ⟨_, rfl⟩
                have hf := nm_x ev9 hf
                refine lv_iinc (v := v9) (lv' := [(3, .int v9), (2, .int v8), (0, .ref (a 0)), (1, .int p1)]) hx hb dX7_gainOf_80 hl (k := 3) rfl (by rw [ev9]; rfl) (by decide) rfl (fun ls hl => ?_)
                refine lv_goto (tgt := 4) hx hb dX7_gainOf_83 (by decide) ?_
                exact ih4 v8 v9 _ _ _ hP hD hS (lv_sub hl [2, 3, 1, 0] rfl) hf
              refine lv_if_eq (tgt := 77) hx hb dX7_gainOf_70 (by decide) (fun cc70 => ?_) (fun cc70 => ?_)
              · have hf := if_t cc70 hf
                refine lv_iconst (v := (0 : Int32)) hx hb dX7_gainOf_77 (by decide) ?_
                exact J78 (0 : Int32) _ _ _ hP hD hS (lv_sub hl [0, 1, 3] rfl) hf
              · have hf := if_f cc70 hf
                refine lv_iconst (v := (1 : Int32)) hx hb dX7_gainOf_73 (by decide) ?_
                refine lv_goto (tgt := 78) hx hb dX7_gainOf_74 (by decide) ?_
                exact J78 (1 : Int32) _ _ _ hP hD hS (lv_sub hl [0, 1, 3] rfl) hf
            · have hf := if_f cc24 hf
              refine lv_iload hx hb dX7_gainOf_27 (lv_at hl 4 rfl) ?_
              have J59 : ∀ (v10 : Int32) (H : Heap) (locs : List Loc) (ls : Array Slot), va_P D vwCl (kM cI cZ a x) H → va_D A (kM cI cZ a x) → va_S A s.heap H locs → lv_has ls 6 [(0, .ref (a 0)), (1, .int p1), (2, .int v1), (3, .int v2), (5, .int v6)] → f_X7_gainOf_j59 rc18 v6 v10 = some r → W p l e RM_X7_gainOf s m (([.ref (a 0), .int p1] : List Value).toArray) below meth c H locs 0 0 (MQ below (QI0 D A (kM cI cZ a x) r) (([.ref (a 0), .int p1] : List Value).toArray) s 0 0 A) (F0 m 59 ls [.int v10]) := by
                intro v10 H locs ls hP hD hS hl hf
                unfold f_X7_gainOf_j59 at hf
                refine lv_istore (lv' := [(4, .int v10), (0, .ref (a 0)), (1, .int p1), (2, .int v1), (3, .int v2), (5, .int v6)]) hx hb dX7_gainOf_59 hl (by decide) rfl (fun ls hl => ?_)
                obtain ⟨v11, ev11⟩ : ∃ y : Int32, y = (v6 + (1 : Int32)) := ⟨_, rfl⟩
                have hf := nm_x ev11 hf
                refine lv_iinc (v := v11) (lv' := [(5, .int v11), (4, .int v10), (0, .ref (a 0)), (1, .int p1), (2, .int v1), (3, .int v2)]) hx hb dX7_gainOf_61 hl (k := 5) rfl (by rw [ev11]; rfl) (by decide) rfl (fun ls hl => ?_)
                refine lv_goto (tgt := 18) hx hb dX7_gainOf_64 (by decide) ?_
                exact ih18 v10 v11 _ _ _ hP hD hS (lv_sub hl [2, 3, 4, 5, 1, 0] rfl) hf
              have J58 : ∀  (H : Heap) (locs : List Loc) (ls : Array Slot), va_P D vwCl (kM cI cZ a x) H → va_D A (kM cI cZ a x) → va_S A s.heap H locs → lv_has ls 6 [(0, .ref (a 0)), (1, .int p1), (2, .int v1), (3, .int v2), (5, .int v6)] → f_X7_gainOf_j58 rc18 v6  = some r → W p l e RM_X7_gainOf s m (([.ref (a 0), .int p1] : List Value).toArray) below meth c H locs 0 0 (MQ below (QI0 D A (kM cI cZ a x) r) (([.ref (a 0), .int p1] : List Value).toArray) s 0 0 A) (F0 m 58 ls []) := by
                intro  H locs ls hP hD hS hl hf
                unfold f_X7_gainOf_j58 at hf
                refine lv_iconst (v := (0 : Int32)) hx hb dX7_gainOf_58 (by decide) ?_
                exact J59 (0 : Int32) _ _ _ hP hD hS (lv_sub hl [0, 1, 2, 3, 4] rfl) hf
              refine lv_if_eq (tgt := 58) hx hb dX7_gainOf_29 (by decide) (fun cc29 => ?_) (fun cc29 => ?_)
              · have hf := if_t cc29 hf
                exact J58  _ _ _ hP hD hS (lv_sub hl [0, 1, 2, 3, 5] rfl) hf
              · have hf := if_f cc29 hf
                refine lv_iload hx hb dX7_gainOf_32 (lv_at hl 5 rfl) ?_
                refine lv_iload_n hx hb dX7_gainOf_34 rfl (lv_at hl 1 rfl) ?_
                have J54 : ∀  (H : Heap) (locs : List Loc) (ls : Array Slot), va_P D vwCl (kM cI cZ a x) H → va_D A (kM cI cZ a x) → va_S A s.heap H locs → lv_has ls 6 [(0, .ref (a 0)), (1, .int p1), (2, .int v1), (3, .int v2), (5, .int v6)] → f_X7_gainOf_j54 rc18 v6  = some r → W p l e RM_X7_gainOf s m (([.ref (a 0), .int p1] : List Value).toArray) below meth c H locs 0 0 (MQ below (QI0 D A (kM cI cZ a x) r) (([.ref (a 0), .int p1] : List Value).toArray) s 0 0 A) (F0 m 54 ls []) := by
                  intro  H locs ls hP hD hS hl hf
                  unfold f_X7_gainOf_j54 at hf
                  refine lv_iconst (v := (1 : Int32)) hx hb dX7_gainOf_54 (by decide) ?_
                  refine lv_goto (tgt := 59) hx hb dX7_gainOf_55 (by decide) ?_
                  exact J59 (1 : Int32) _ _ _ hP hD hS (lv_sub hl [0, 1, 2, 3, 4] rfl) hf
                refine lv_icmp_eq (tgt := 54) hx hb dX7_gainOf_35 (by decide) (fun cc35 => ?_) (fun cc35 => ?_)
                · have hf := if_t cc35 hf
                  exact J54  _ _ _ hP hD hS (lv_sub hl [0, 1, 2, 3, 5] rfl) hf
                · have hf := if_f cc35 hf
                  refine lv_aload_n hx hb dX7_gainOf_38 rfl (lv_at hl 0 rfl) ?_
                  refine lv_iload_n hx hb dX7_gainOf_39 rfl (lv_at hl 3 rfl) ?_
                  refine lv_iload_n hx hb dX7_gainOf_40 rfl (lv_at hl 1 rfl) ?_
                  obtain ⟨q12, hq12, hf⟩ := bd_x hf
                  have hFc := freeS hD hS hA
                  refine va_calli (va_runV (As := [.int v2, .int p1]) (rest := []) ⟨hx, hb, hml, hown, hG⟩ (c_X7_wouldThink l D cI cZ a x v2 p1 H.size hq12) (cwV 2 hG (gV g_792 g_793 g_66 g_77 g_794) rfl rfl rfl (by decide +kernel) ⟨Nat.le_of_ble_eq_true rfl, Nat.le_of_ble_eq_true rfl⟩) ⟨pre_blind, va_recv hK hP (ci := 7) (q0 := 0) rfl rfl, fun U hU hW => ⟨rfl, pre_of hP hK hD hnw hU hW⟩⟩ rfl rfl hl.1 rfl (lv_room (Nat.le_of_ble_eq_true rfl)) dX7_gainOf_41 ⟨Nat.le_of_ble_eq_true rfl, Nat.le_of_ble_eq_true rfl⟩) hS (fun q _ h => hFc q h) hFc (fun v u t H locs ht hvm hw hB hz1 hk1 hS => ?_)
                  have hw := hw.symm; subst hw
                  obtain ⟨hP1, hD1⟩ := hB
                  rw [ht] at hP1
                  have hP := hP1
                  have hD := hD1.weaken (fun _ q _ h => hFc q.1 h)
                  refine lv_aload_n hx hb dX7_gainOf_44 rfl (lv_at hl 0 rfl) ?_
                  refine lv_iload_n hx hb dX7_gainOf_45 rfl (lv_at hl 3 rfl) ?_
                  refine lv_iload hx hb dX7_gainOf_46 (lv_at hl 5 rfl) ?_
                  obtain ⟨q13, hq13, hf⟩ := bd_x hf
                  have hFc := freeS hD hS hA
                  refine va_calli (va_runV (As := [.int v2, .int v6]) (rest := [.int q12]) ⟨hx, hb, hml, hown, hG⟩ (c_X7_wouldThink l D cI cZ a x v2 v6 H.size hq13) (cwV 2 hG (gV g_792 g_793 g_66 g_77 g_794) rfl rfl rfl (by decide +kernel) ⟨Nat.le_of_ble_eq_true rfl, Nat.le_of_ble_eq_true rfl⟩) ⟨pre_blind, va_recv hK hP (ci := 7) (q0 := 0) rfl rfl, fun U hU hW => ⟨rfl, pre_of hP hK hD hnw hU hW⟩⟩ rfl rfl hl.1 rfl (lv_room (Nat.le_of_ble_eq_true rfl)) dX7_gainOf_48 ⟨Nat.le_of_ble_eq_true rfl, Nat.le_of_ble_eq_true rfl⟩) hS (fun q _ h => hFc q h) hFc (fun v u t H locs ht hvm hw hB hz1 hk1 hS => ?_)
                  have hw := hw.symm; subst hw
                  obtain ⟨hP1, hD1⟩ := hB
                  rw [ht] at hP1
                  have hP := hP1
                  have hD := hD1.weaken (fun _ q _ h => hFc q.1 h)
                  refine lv_icmp_le (tgt := 58) hx hb dX7_gainOf_51 (by decide) (fun cc51 => ?_) (fun cc51 => ?_)
                  · have hf := if_t cc51 hf
                    exact J58  _ _ _ hP hD hS (lv_sub hl [0, 1, 2, 3, 5] rfl) hf
                  · have hf := if_f cc51 hf
                    exact J54  _ _ _ hP hD hS (lv_sub hl [0, 1, 2, 3, 5] rfl) hf
        exact L18 FU (1 : Int32) (0 : Int32) _ _ _ hP hD hS (lv_sub hl [2, 3, 4, 5, 1, 0] rfl) hf
  exact L4 FU (0 : Int32) (0 : Int32) _ _ _ hP hD hS (lv_sub hl [2, 3, 1, 0] rfl) hf
def f_X7_writes_j113 (rc4 : Int32 → Int32 → HC → Option (Int32 × HC)) (v2 : Int32) (X9 : HC) (v10 : Int32) : Option (Int32 × HC) := nm (v2 + (1 : Int32)) (fun (v11 : Int32) => rc4 v10 v11 X9)
def f_X7_writes_j108 (rc4 : Int32 → Int32 → HC → Option (Int32 × HC)) (v2 : Int32) (X9 : HC)  : Option (Int32 × HC) := f_X7_writes_j113 rc4 v2 X9 (1 : Int32)
def f_X7_writes_j82 (rc30 : Int32 → Int32 → Int32 → HC → Option (Int32 × HC)) (v7 : Int32) (X12 : HC) (v14 : Int32) (v15 : Int32) : Option (Int32 × HC) := nm (v7 + (10 : Int32)) (fun (v16 : Int32) => rc30 v14 v15 v16 X12)
def f_X7_writes_j66 (rc30 : Int32 → Int32 → Int32 → HC → Option (Int32 × HC)) (v6 : Int32) (v7 : Int32) (X12 : HC) (q13 : Int32) (v14 : Int32) : Option (Int32 × HC) := (if q13 ≤ v6 then f_X7_writes_j82 rc30 v7 X12 v14 v6 else f_X7_writes_j82 rc30 v7 X12 v14 q13)
def f_X7_writes_b30 (rc4 : Int32 → Int32 → HC → Option (Int32 × HC)) (v1 : Int32) (v2 : Int32) (v4 : Int32) (rc30 : Int32 → Int32 → Int32 → HC → Option (Int32 × HC)) (v5 : Int32) (v6 : Int32) (v7 : Int32) (X8 : HC) : Option (Int32 × HC) := (if (100 : Int32) ≤ v7 then (if inb v2 5 then nm (sa X8 17 v2 v5) (fun (X9 : HC) => (if v1 = 0 then (if v5 = v4 then f_X7_writes_j113 rc4 v2 X9 (0 : Int32) else f_X7_writes_j108 rc4 v2 X9) else f_X7_writes_j108 rc4 v2 X9)) else none) else (if inb v2 5 then nm (sa X8 17 v2 v7) (fun (X12 : HC) => bd (f_X7_gainOf X12 v2) (fun (q13 : Int32) => (if q13 ≤ v6 then f_X7_writes_j66 rc30 v6 v7 X12 q13 v5 else f_X7_writes_j66 rc30 v6 v7 X12 q13 v7))) else none))
def f_X7_writes_b4  (rc4 : Int32 → Int32 → HC → Option (Int32 × HC)) (v1 : Int32) (v2 : Int32) (X3 : HC) : Option (Int32 × HC) := (if (X3 0 6) ≤ v2 then (if bz v1 then some (v1, X3) else none) else (if inb v2 5 then nm (X3 17 (Int32.toNatClampNeg v2)) (fun (v4 : Int32) => lp (fun _ _ _ _ => none : Int32 → Int32 → Int32 → HC → Option (Int32 × HC)) (f_X7_writes_b30 rc4 v1 v2 v4) FU (0 : Int32) (-1000 : Int32) (0 : Int32) X3) else none))
def f_X7_writes (x : HC) : Option (Int32 × HC) := lp (fun _ _ _ => none : Int32 → Int32 → HC → Option (Int32 × HC)) f_X7_writes_b4 FU (0 : Int32) (0 : Int32) x
abbrev RM_X7_writes : Room := { frames := 3, cells := 0, slots := 0, locals := 71 }
set_option maxHeartbeats 4000000 in
set_option maxRecDepth 100000 in
theorem c_X7_writes (l : Launch) (D : va_G) (cI cZ : ClassId) (a : Nat → Nat) (x : HC) (sz : Nat) {r : Int32 × HC} (hf : f_X7_writes x = some r) : Met l yX7_writes (wM yX7_writes cX7_writes 8 (some .boolean)) RM_X7_writes (va_Pc [.ref (a 0)] (pre D cI cZ (kM cI cZ a x) sz)) (QI D (va_A (kM cI cZ a x) sz) (fun (u : HC) => (kM cI cZ a u)) r) 0 0 (va_A (kM cI cZ a x) sz) := by
  unfold f_X7_writes at hf
  refine Met.ofW (cc := cX7_writes) (maxL := 8) (ret := (some .boolean)) (by decide) rfl ?_
  intro p e s m args below meth c s₁ B hml hv
  obtain ⟨rfl, hsz, hP, hK, hD0, hnw⟩ := hv
  have hx := B.exec
  have hb := B.bytes
  have hr := B.returns
  have hts := atoms_spec (ws := wM yX7_writes cX7_writes 8 (some .boolean)) B.pre
  have hG : ∀ w ∈ GW, w.before (([.ref (a 0)] : List Value).toArray) s = true := fun w h => hts w (List.mem_cons_of_mem _ h)
  have hown : s.vm.findClass RX7 = some m.cls := findClass_of_methodNamed B.named
  have hlocks := B.notSynchronized
  subst hsz
  have hD := hD0.self (sz := s.heap.size)
  generalize hAe : va_A (kM cI cZ a x) s.heap.size = A at hD ⊢
  have hA : ∀ q : Nat, s.heap.size ≤ q → A q := fun q h => by rw [← hAe]; exact Or.inr h
  have hS : va_S A s.heap s.heap [] := va_S.rf
  have hl := lv_entry ([.ref (a 0)]) (n := 8) (Nat.le_of_ble_eq_true rfl)
  rw [lg_entry_eq]
  generalize (lg_sl ([.ref (a 0)]) ++ List.replicate (8 - (lg_sl ([.ref (a 0)])).length) Slot.unset).toArray = ls at hl ⊢
  have hl : lv_has ls 8 [(0, .ref (a 0))] := hl
  show W p l e RM_X7_writes s m (([.ref (a 0)] : List Value).toArray) below meth c s.heap [] 0 0 (MQ below (QI D A (fun (u : HC) => (kM cI cZ a u)) r) (([.ref (a 0)] : List Value).toArray) s 0 0 A) (F0 m 0 ls [])
  refine lv_iconst (v := (0 : Int32)) hx hb dX7_writes_0 (by decide) ?_
  refine lv_istore_n (lv' := [(1, .int (0 : Int32)), (0, .ref (a 0))]) hx hb dX7_writes_1 rfl hl (by decide) rfl (fun ls hl => ?_)
  refine lv_iconst (v := (0 : Int32)) hx hb dX7_writes_2 (by decide) ?_
  refine lv_istore_n (lv' := [(2, .int (0 : Int32)), (1, .int (0 : Int32)), (0, .ref (a 0))]) hx hb dX7_writes_3 rfl hl (by decide) rfl (fun ls hl => ?_)
  have L4 : ∀ (n : Nat) (v1 : Int32) (v2 : Int32) (X3 : HC) (H : Heap) (locs : List Loc) (ls : Array Slot), va_P D vwCl (kM cI cZ a X3) H → va_D A (kM cI cZ a X3) → va_S A s.heap H locs → lv_has ls 8 [(0, .ref (a 0)), (1, .int v1), (2, .int v2)] → lp (fun _ _ _ => none : Int32 → Int32 → HC → Option (Int32 × HC)) f_X7_writes_b4 n v1 v2 X3 = some r → W p l e RM_X7_writes s m (([.ref (a 0)] : List Value).toArray) below meth c H locs 0 0 (MQ below (QI D A (fun (u : HC) => (kM cI cZ a u)) r) (([.ref (a 0)] : List Value).toArray) s 0 0 A) (F0 m 4 ls []) := by
    intro n
    induction n with
    | zero => intro v1 v2 X3 H locs ls _ _ _ _ hf; cases (show (none : Option (Int32 × HC)) = some r from hf)
    | succ n ih4 =>
      intro v1 v2 X3 H locs ls hP hD hS hl hf
      have hf : f_X7_writes_b4 (lp (fun _ _ _ => none : Int32 → Int32 → HC → Option (Int32 × HC)) f_X7_writes_b4 n) v1 v2 X3 = some r := hf
      generalize lp (fun _ _ _ => none : Int32 → Int32 → HC → Option (Int32 × HC)) f_X7_writes_b4 n = rc4 at ih4 hf
      unfold f_X7_writes_b4 at hf
      refine lv_iload_n hx hb dX7_writes_4 rfl (lv_at hl 2 rfl) ?_
      refine lv_aload_n hx hb dX7_writes_5 rfl (lv_at hl 0 rfl) ?_
      refine va_get (D := D) (ci := 7) (v := .int (X3 0 6)) (C := RX7) (T := TX7) (N := 32) hx hb hG inG7 hown hK hP 0 at_M_0_0 rfl 6 (by decide) (hG _ g_570) (fun _ h9 => h9) rfl dX7_writes_6 ?_
      refine lv_icmp_ge (tgt := 120) hx hb dX7_writes_9 (by decide) (fun cc9 => ?_) (fun cc9 => ?_)
      · have hf := if_t cc9 hf
        refine lv_iload_n hx hb dX7_writes_120 rfl (lv_at hl 1 rfl) ?_
        obtain ⟨hz121, hf⟩ := gd hf
        exact W.zret (v := v1) hx hb hr (bz_n hz121) (fun t ht hW => ⟨⟨v1, X3, rfl, ⟨pr_1 hf, pr_2 hf⟩, by rw [ht]; exact hP, hD⟩, hS.F ht⟩) hS.2.2 dX7_writes_121
      · have hf := if_f cc9 hf
        refine lv_aload_n hx hb dX7_writes_12 rfl (lv_at hl 0 rfl) ?_
        refine va_get (D := D) (ci := 7) (v := .ref (a 17)) (C := RX7) (T := TX7) (N := 32) hx hb hG inG7 hown hK hP 0 at_M_0_0 rfl 31 (by decide) (hG _ g_595) (fun _ h9 => h9) rfl dX7_writes_13 ?_
        refine lv_iload_n hx hb dX7_writes_16 rfl (lv_at hl 2 rfl) ?_
        obtain ⟨hb17, hf⟩ := gd hf
        refine va_iald (cA := cI) (n := 5) (f := X3 17) hx hb hK hP 17 0 at_M_0_17 rfl (inb_in hb17) dX7_writes_17 ?_
        refine lv_topi (fun v4 ev4 => ?_)
        have hf := nm_x ev4 hf
        refine lv_istore_n (lv' := [(3, .int v4), (0, .ref (a 0)), (1, .int v1), (2, .int v2)]) hx hb dX7_writes_18 rfl hl (by decide) rfl (fun ls hl => ?_)
        refine lv_iconst (v := (0 : Int32)) hx hb dX7_writes_19 (by decide) ?_
        refine lv_istore (lv' := [(4, .int (0 : Int32)), (3, .int v4), (0, .ref (a 0)), (1, .int v1), (2, .int v2)]) hx hb dX7_writes_20 hl (by decide) rfl (fun ls hl => ?_)
        refine lv_sipush (v := (-1000 : Int32)) hx hb dX7_writes_22 (by decide) ?_
        refine lv_istore (lv' := [(5, .int (-1000 : Int32)), (4, .int (0 : Int32)), (3, .int v4), (0, .ref (a 0)), (1, .int v1), (2, .int v2)]) hx hb dX7_writes_25 hl (by decide) rfl (fun ls hl => ?_)
        refine lv_iconst (v := (0 : Int32)) hx hb dX7_writes_27 (by decide) ?_
        refine lv_istore (lv' := [(6, .int (0 : Int32)), (5, .int (-1000 : Int32)), (4, .int (0 : Int32)), (3, .int v4), (0, .ref (a 0)), (1, .int v1), (2, .int v2)]) hx hb dX7_writes_28 hl (by decide) rfl (fun ls hl => ?_)
        have L30 : ∀ (n : Nat) (v5 : Int32) (v6 : Int32) (v7 : Int32) (X8 : HC) (H : Heap) (locs : List Loc) (ls : Array Slot), va_P D vwCl (kM cI cZ a X8) H → va_D A (kM cI cZ a X8) → va_S A s.heap H locs → lv_has ls 8 [(0, .ref (a 0)), (1, .int v1), (2, .int v2), (3, .int v4), (4, .int v5), (5, .int v6), (6, .int v7)] → lp (fun _ _ _ _ => none : Int32 → Int32 → Int32 → HC → Option (Int32 × HC)) (f_X7_writes_b30 rc4 v1 v2 v4) n v5 v6 v7 X8 = some r → W p l e RM_X7_writes s m (([.ref (a 0)] : List Value).toArray) below meth c H locs 0 0 (MQ below (QI D A (fun (u : HC) => (kM cI cZ a u)) r) (([.ref (a 0)] : List Value).toArray) s 0 0 A) (F0 m 30 ls []) := by
          intro n
          induction n with
          | zero => intro v5 v6 v7 X8 H locs ls _ _ _ _ hf; cases (show (none : Option (Int32 × HC)) = some r from hf)
          | succ n ih30 =>
            intro v5 v6 v7 X8 H locs ls hP hD hS hl hf
            have hf : (f_X7_writes_b30 rc4 v1 v2 v4) (lp (fun _ _ _ _ => none : Int32 → Int32 → Int32 → HC → Option (Int32 × HC)) (f_X7_writes_b30 rc4 v1 v2 v4) n) v5 v6 v7 X8 = some r := hf
            generalize lp (fun _ _ _ _ => none : Int32 → Int32 → Int32 → HC → Option (Int32 × HC)) (f_X7_writes_b30 rc4 v1 v2 v4) n = rc30 at ih30 hf
            unfold f_X7_writes_b30 at hf
            refine lv_iload hx hb dX7_writes_30 (lv_at hl 6 rfl) ?_
            refine lv_bipush (v := (100 : Int32)) hx hb dX7_writes_32 (by decide) ?_
            refine lv_icmp_ge (tgt := 90) hx hb dX7_writes_34 (by decide) (fun cc34 => ?_) (fun cc34 => ?_)
            · have hf := if_t cc34 hf
              refine lv_aload_n hx hb dX7_writes_90 rfl (lv_at hl 0 rfl) ?_
              refine va_get (D := D) (ci := 7) (v := .ref (a 17)) (C := RX7) (T := TX7) (N := 32) hx hb hG inG7 hown hK hP 0 at_M_0_0 rfl 31 (by decide) (hG _ g_595) (fun _ h9 => h9) rfl dX7_writes_91 ?_
              refine lv_iload_n hx hb dX7_writes_94 rfl (lv_at hl 2 rfl) ?_
              refine lv_iload hx hb dX7_writes_95 (lv_at hl 4 rfl) ?_
              obtain ⟨hb97, hf⟩ := gd hf
              refine va_iast (cA := cI) (n := 5) (f := X8 17) hx hb hK hP hD hS 17 0 at_M_0_17 rfl (inb_in hb97) dX7_writes_97 (fun H locs hP hD hS => ?_)
              obtain ⟨X9, eX9⟩ : ∃ y : HC, y = (sa X8 17 v2 v5) := ⟨_, rfl⟩
              have hf := nm_x eX9 hf
              have hP := wP (sa_M_0_17.trans (congrArg (fun z : HC => (kM cI cZ a z)) eX9.symm)) hP
              have hD := wD (sa_M_0_17.trans (congrArg (fun z : HC => (kM cI cZ a z)) eX9.symm)) hD
              refine lv_iload_n hx hb dX7_writes_98 rfl (lv_at hl 1 rfl) ?_
              have J113 : ∀ (v10 : Int32) (H : Heap) (locs : List Loc) (ls : Array Slot), va_P D vwCl (kM cI cZ a X9) H → va_D A (kM cI cZ a X9) → va_S A s.heap H locs → lv_has ls 8 [(0, .ref (a 0)), (2, .int v2)] → f_X7_writes_j113 rc4 v2 X9 v10 = some r → W p l e RM_X7_writes s m (([.ref (a 0)] : List Value).toArray) below meth c H locs 0 0 (MQ below (QI D A (fun (u : HC) => (kM cI cZ a u)) r) (([.ref (a 0)] : List Value).toArray) s 0 0 A) (F0 m 113 ls [.int v10]) := by
                intro v10 H locs ls hP hD hS hl hf
                unfold f_X7_writes_j113 at hf
                refine lv_istore_n (lv' := [(1, .int v10), (0, .ref (a 0)), (2, .int v2)]) hx hb dX7_writes_113 rfl hl (by decide) rfl (fun ls hl => ?_)
                obtain ⟨v11, ev11⟩ : ∃ y : Int32, y = (v2 + (1 : Int32)) := ⟨_, rfl⟩
                have hf := nm_x ev11 hf
                refine lv_iinc (v := v11) (lv' := [(2, .int v11), (1, .int v10), (0, .ref (a 0))]) hx hb dX7_writes_114 hl (k := 2) rfl (by rw [ev11]; rfl) (by decide) rfl (fun ls hl => ?_)
                refine lv_goto (tgt := 4) hx hb dX7_writes_117 (by decide) ?_
                exact ih4 v10 v11 X9 _ _ _ hP hD hS (lv_sub hl [2, 1, 0] rfl) hf
              have J108 : ∀  (H : Heap) (locs : List Loc) (ls : Array Slot), va_P D vwCl (kM cI cZ a X9) H → va_D A (kM cI cZ a X9) → va_S A s.heap H locs → lv_has ls 8 [(0, .ref (a 0)), (2, .int v2)] → f_X7_writes_j108 rc4 v2 X9  = some r → W p l e RM_X7_writes s m (([.ref (a 0)] : List Value).toArray) below meth c H locs 0 0 (MQ below (QI D A (fun (u : HC) => (kM cI cZ a u)) r) (([.ref (a 0)] : List Value).toArray) s 0 0 A) (F0 m 108 ls []) := by
                intro  H locs ls hP hD hS hl hf
                unfold f_X7_writes_j108 at hf
                refine lv_iconst (v := (1 : Int32)) hx hb dX7_writes_108 (by decide) ?_
                refine lv_goto (tgt := 113) hx hb dX7_writes_109 (by decide) ?_
                exact J113 (1 : Int32) _ _ _ hP hD hS (lv_sub hl [0, 1] rfl) hf
              refine lv_if_ne (tgt := 108) hx hb dX7_writes_99 (by decide) (fun cc99 => ?_) (fun cc99 => ?_)
              · have hf := if_f cc99 hf
                exact J108  _ _ _ hP hD hS (lv_sub hl [0, 2] rfl) hf
              · have hf := if_t cc99 hf
                refine lv_iload hx hb dX7_writes_102 (lv_at hl 4 rfl) ?_
                refine lv_iload_n hx hb dX7_writes_104 rfl (lv_at hl 3 rfl) ?_
                refine lv_icmp_eq (tgt := 112) hx hb dX7_writes_105 (by decide) (fun cc105 => ?_) (fun cc105 => ?_)
                · have hf := if_t cc105 hf
                  refine lv_iconst (v := (0 : Int32)) hx hb dX7_writes_112 (by decide) ?_
                  exact J113 (0 : Int32) _ _ _ hP hD hS (lv_sub hl [0, 2] rfl) hf
                · have hf := if_f cc105 hf
                  exact J108  _ _ _ hP hD hS (lv_sub hl [0, 2] rfl) hf
            · have hf := if_f cc34 hf
              refine lv_aload_n hx hb dX7_writes_37 rfl (lv_at hl 0 rfl) ?_
              refine va_get (D := D) (ci := 7) (v := .ref (a 17)) (C := RX7) (T := TX7) (N := 32) hx hb hG inG7 hown hK hP 0 at_M_0_0 rfl 31 (by decide) (hG _ g_595) (fun _ h9 => h9) rfl dX7_writes_38 ?_
              refine lv_iload_n hx hb dX7_writes_41 rfl (lv_at hl 2 rfl) ?_
              refine lv_iload hx hb dX7_writes_42 (lv_at hl 6 rfl) ?_
              obtain ⟨hb44, hf⟩ := gd hf
              refine va_iast (cA := cI) (n := 5) (f := X8 17) hx hb hK hP hD hS 17 0 at_M_0_17 rfl (inb_in hb44) dX7_writes_44 (fun H locs hP hD hS => ?_)
              obtain ⟨X12, eX12⟩ : ∃ y : HC, y = (sa X8 17 v2 v7) := ⟨_, rfl⟩
              have hf := nm_x eX12 hf
              have hP := wP (sa_M_0_17.trans (congrArg (fun z : HC => (kM cI cZ a z)) eX12.symm)) hP
              have hD := wD (sa_M_0_17.trans (congrArg (fun z : HC => (kM cI cZ a z)) eX12.symm)) hD
              refine lv_aload_n hx hb dX7_writes_45 rfl (lv_at hl 0 rfl) ?_
              refine lv_iload_n hx hb dX7_writes_46 rfl (lv_at hl 2 rfl) ?_
              obtain ⟨q13, hq13, hf⟩ := bd_x hf
              have hFc := freeS hD hS hA
              refine va_calli (va_runV (As := [.int v2]) (rest := []) ⟨hx, hb, hml, hown, hG⟩ (c_X7_gainOf l D cI cZ a X12 v2 H.size hq13) (cwV 1 hG (gV g_789 g_790 g_65 g_77 g_791) rfl rfl rfl (by decide +kernel) ⟨Nat.le_of_ble_eq_true rfl, Nat.le_of_ble_eq_true rfl⟩) ⟨pre_blind, va_recv hK hP (ci := 7) (q0 := 0) rfl rfl, fun U hU hW => ⟨rfl, pre_of hP hK hD hnw hU hW⟩⟩ rfl rfl hl.1 rfl (lv_room (Nat.le_of_ble_eq_true rfl)) dX7_writes_47 ⟨Nat.le_of_ble_eq_true rfl, Nat.le_of_ble_eq_true rfl⟩) hS (fun q _ h => hFc q h) hFc (fun v u t H locs ht hvm hw hB hz1 hk1 hS => ?_)
              have hw := hw.symm; subst hw
              obtain ⟨hP1, hD1⟩ := hB
              rw [ht] at hP1
              have hP := hP1
              have hD := hD1.weaken (fun _ q _ h => hFc q.1 h)
              refine lv_istore (lv' := [(7, .int q13), (0, .ref (a 0)), (1, .int v1), (2, .int v2), (3, .int v4), (4, .int v5), (5, .int v6), (6, .int v7)]) hx hb dX7_writes_50 hl (by decide) rfl (fun ls hl => ?_)
              refine lv_iload hx hb dX7_writes_52 (lv_at hl 0 rfl) ?_
              refine lv_iload hx hb dX7_writes_54 (lv_at hl 6 rfl) ?_
              have J66 : ∀ (v14 : Int32) (H : Heap) (locs : List Loc) (ls : Array Slot), va_P D vwCl (kM cI cZ a X12) H → va_D A (kM cI cZ a X12) → va_S A s.heap H locs → lv_has ls 8 [(0, .ref (a 0)), (1, .int v1), (2, .int v2), (3, .int v4), (5, .int v6), (6, .int v7), (7, .int q13)] → f_X7_writes_j66 rc30 v6 v7 X12 q13 v14 = some r → W p l e RM_X7_writes s m (([.ref (a 0)] : List Value).toArray) below meth c H locs 0 0 (MQ below (QI D A (fun (u : HC) => (kM cI cZ a u)) r) (([.ref (a 0)] : List Value).toArray) s 0 0 A) (F0 m 66 ls [.int v14]) := by
                intro v14 H locs ls hP hD hS hl hf
                unfold f_X7_writes_j66 at hf
                refine lv_istore (lv' := [(4, .int v14), (0, .ref (a 0)), (1, .int v1), (2, .int v2), (3, .int v4), (5, .int v6), (6, .int v7), (7, .int q13)]) hx hb dX7_writes_66 hl (by decide) rfl (fun ls hl => ?_)
                refine lv_iload hx hb dX7_writes_68 (lv_at hl 7 rfl) ?_
                refine lv_iload hx hb dX7_writes_70 (lv_at hl 5 rfl) ?_
                have J82 : ∀ (v15 : Int32) (H : Heap) (locs : List Loc) (ls : Array Slot), va_P D vwCl (kM cI cZ a X12) H → va_D A (kM cI cZ a X12) → va_S A s.heap H locs → lv_has ls 8 [(0, .ref (a 0)), (1, .int v1), (2, .int v2), (3, .int v4), (4, .int v14), (6, .int v7)] → f_X7_writes_j82 rc30 v7 X12 v14 v15 = some r → W p l e RM_X7_writes s m (([.ref (a 0)] : List Value).toArray) below meth c H locs 0 0 (MQ below (QI D A (fun (u : HC) => (kM cI cZ a u)) r) (([.ref (a 0)] : List Value).toArray) s 0 0 A) (F0 m 82 ls [.int v15]) := by
                  intro v15 H locs ls hP hD hS hl hf
                  unfold f_X7_writes_j82 at hf
                  refine lv_istore (lv' := [(5, .int v15), (0, .ref (a 0)), (1, .int v1), (2, .int v2), (3, .int v4), (4, .int v14), (6, .int v7)]) hx hb dX7_writes_82 hl (by decide) rfl (fun ls hl => ?_)
                  obtain ⟨v16, ev16⟩ : ∃ y : Int32, y = (v7 + (10 : Int32)) := ⟨_, rfl⟩
                  have hf := nm_x ev16 hf
                  refine lv_iinc (v := v16) (lv' := [(6, .int v16), (5, .int v15), (0, .ref (a 0)), (1, .int v1), (2, .int v2), (3, .int v4), (4, .int v14)]) hx hb dX7_writes_84 hl (k := 6) rfl (by rw [ev16]; rfl) (by decide) rfl (fun ls hl => ?_)
                  refine lv_goto (tgt := 30) hx hb dX7_writes_87 (by decide) ?_
                  exact ih30 v14 v15 v16 X12 _ _ _ hP hD hS (lv_sub hl [2, 3, 4, 5, 6, 1, 0] rfl) hf
                refine lv_icmp_le (tgt := 80) hx hb dX7_writes_72 (by decide) (fun cc72 => ?_) (fun cc72 => ?_)
                · have hf := if_t cc72 hf
                  refine lv_iload hx hb dX7_writes_80 (lv_at hl 5 rfl) ?_
                  exact J82 v6 _ _ _ hP hD hS (lv_sub hl [1, 2, 3, 4, 0, 6] rfl) hf
                · have hf := if_f cc72 hf
                  refine lv_iload hx hb dX7_writes_75 (lv_at hl 7 rfl) ?_
                  refine lv_goto (tgt := 82) hx hb dX7_writes_77 (by decide) ?_
                  exact J82 q13 _ _ _ hP hD hS (lv_sub hl [1, 2, 3, 4, 0, 6] rfl) hf
              refine lv_icmp_le (tgt := 64) hx hb dX7_writes_56 (by decide) (fun cc56 => ?_) (fun cc56 => ?_)
              · have hf := if_t cc56 hf
                refine lv_iload hx hb dX7_writes_64 (lv_at hl 5 rfl) ?_
                exact J66 v5 _ _ _ hP hD hS (lv_sub hl [1, 2, 3, 4, 6, 7, 0] rfl) hf
              · have hf := if_f cc56 hf
                refine lv_iload hx hb dX7_writes_59 (lv_at hl 7 rfl) ?_
                refine lv_goto (tgt := 66) hx hb dX7_writes_61 (by decide) ?_
                exact J66 v7 _ _ _ hP hD hS (lv_sub hl [1, 2, 3, 4, 6, 7, 0] rfl) hf
        exact L30 FU (0 : Int32) (-1000 : Int32) (0 : Int32) X3 _ _ _ hP hD hS (lv_sub hl [4, 5, 6, 3, 2, 1, 0] rfl) hf
  exact L4 FU (0 : Int32) (0 : Int32) x _ _ _ hP hD hS (lv_sub hl [2, 1, 0] rfl) hf
def f_X7_write_j64 (p1 : Int32) (v3 : Int32) (X5 : HC) : Option (Int32 × HC) := (if v3 = (20 : Int32) then some ((-1 : Int32), X5) else (if p1 = (-1 : Int32) then some (v3, X5) else (if inb p1 5 then some ((X5 17 (Int32.toNatClampNeg p1)), X5) else none)))
def f_X7_write_b45 (p1 : Int32) (rc45 : Int32 → HC → Option (Int32 × HC)) (v3 : Int32) (X4 : HC) : Option (Int32 × HC) := (if (20 : Int32) ≤ v3 then f_X7_write_j64 p1 v3 X4 else bd (f_X7_writes X4) (fun (q6 : Int32 × HC) => (if q6.1 = 0 then f_X7_write_j64 p1 v3 q6.2 else nm (v3 + (1 : Int32)) (fun (v7 : Int32) => rc45 v7 q6.2))))
def f_X7_write_b18 (p1 : Int32) (rc18 : Int32 → HC → Option (Int32 × HC)) (v1 : Int32) (X2 : HC) : Option (Int32 × HC) := (if (5 : Int32) ≤ v1 then lp (fun _ _ => none : Int32 → HC → Option (Int32 × HC)) (f_X7_write_b45 p1) FU (0 : Int32) X2 else (if inb ((0 : Int32) + v1) 141 then (if inb v1 5 then nm (sa X2 17 v1 (X2 1 (Int32.toNatClampNeg ((0 : Int32) + v1)))) (fun (X8 : HC) => nm (v1 + (1 : Int32)) (fun (v9 : Int32) => rc18 v9 X8)) else none) else none))
def f_X7_write_j16 (x : HC) (p1 : Int32)  : Option (Int32 × HC) := lp (fun _ _ => none : Int32 → HC → Option (Int32 × HC)) (f_X7_write_b18 p1) FU (0 : Int32) x
def f_X7_write (x : HC) (p1 : Int32) : Option (Int32 × HC) := (if p1 = (-1 : Int32) then f_X7_write_j16 x p1 else bd (f_X7_isFighter x p1) (fun (q10 : Int32) => (if q10 = 0 then some ((-1000000001 : Int32), x) else f_X7_write_j16 x p1)))
abbrev RM_X7_write : Room := { frames := 4, cells := 0, slots := 0, locals := 98 }
set_option maxHeartbeats 4000000 in
set_option maxRecDepth 100000 in
theorem c_X7_write (l : Launch) (D : va_G) (cI cZ : ClassId) (a : Nat → Nat) (x : HC) (p1 : Int32) (sz : Nat) {r : Int32 × HC} (hf : f_X7_write x p1 = some r) : Met l yX7_write (wM yX7_write cX7_write 3 (some .int)) RM_X7_write (va_Pc [.ref (a 0), .int p1] (pre D cI cZ (kM cI cZ a x) sz)) (QI D (va_A (kM cI cZ a x) sz) (fun (u : HC) => (kM cI cZ a u)) r) 0 0 (va_A (kM cI cZ a x) sz) := by
  unfold f_X7_write at hf
  refine Met.ofW (cc := cX7_write) (maxL := 3) (ret := (some .int)) (by decide) rfl ?_
  intro p e s m args below meth c s₁ B hml hv
  obtain ⟨rfl, hsz, hP, hK, hD0, hnw⟩ := hv
  have hx := B.exec
  have hb := B.bytes
  have hr := B.returns
  have hts := atoms_spec (ws := wM yX7_write cX7_write 3 (some .int)) B.pre
  have hG : ∀ w ∈ GW, w.before (([.ref (a 0), .int p1] : List Value).toArray) s = true := fun w h => hts w (List.mem_cons_of_mem _ h)
  have hown : s.vm.findClass RX7 = some m.cls := findClass_of_methodNamed B.named
  have hlocks := B.notSynchronized
  subst hsz
  have hD := hD0.self (sz := s.heap.size)
  generalize hAe : va_A (kM cI cZ a x) s.heap.size = A at hD ⊢
  have hA : ∀ q : Nat, s.heap.size ≤ q → A q := fun q h => by rw [← hAe]; exact Or.inr h
  have hS : va_S A s.heap s.heap [] := va_S.rf
  have hl := lv_entry ([.ref (a 0), .int p1]) (n := 3) (Nat.le_of_ble_eq_true rfl)
  rw [lg_entry_eq]
  generalize (lg_sl ([.ref (a 0), .int p1]) ++ List.replicate (3 - (lg_sl ([.ref (a 0), .int p1])).length) Slot.unset).toArray = ls at hl ⊢
  have hl : lv_has ls 3 [(0, .ref (a 0)), (1, .int p1)] := hl
  show W p l e RM_X7_write s m (([.ref (a 0), .int p1] : List Value).toArray) below meth c s.heap [] 0 0 (MQ below (QI D A (fun (u : HC) => (kM cI cZ a u)) r) (([.ref (a 0), .int p1] : List Value).toArray) s 0 0 A) (F0 m 0 ls [])
  refine lv_iload_n hx hb dX7_write_0 rfl (lv_at hl 1 rfl) ?_
  refine lv_iconst (v := (-1 : Int32)) hx hb dX7_write_1 (by decide) ?_
  have J16 : ∀  (H : Heap) (locs : List Loc) (ls : Array Slot), va_P D vwCl (kM cI cZ a x) H → va_D A (kM cI cZ a x) → va_S A s.heap H locs → lv_has ls 3 [(0, .ref (a 0)), (1, .int p1)] → f_X7_write_j16 x p1  = some r → W p l e RM_X7_write s m (([.ref (a 0), .int p1] : List Value).toArray) below meth c H locs 0 0 (MQ below (QI D A (fun (u : HC) => (kM cI cZ a u)) r) (([.ref (a 0), .int p1] : List Value).toArray) s 0 0 A) (F0 m 16 ls []) := by
    intro  H locs ls hP hD hS hl hf
    unfold f_X7_write_j16 at hf
    refine lv_iconst (v := (0 : Int32)) hx hb dX7_write_16 (by decide) ?_
    refine lv_istore_n (lv' := [(2, .int (0 : Int32)), (0, .ref (a 0)), (1, .int p1)]) hx hb dX7_write_17 rfl hl (by decide) rfl (fun ls hl => ?_)
    have L18 : ∀ (n : Nat) (v1 : Int32) (X2 : HC) (H : Heap) (locs : List Loc) (ls : Array Slot), va_P D vwCl (kM cI cZ a X2) H → va_D A (kM cI cZ a X2) → va_S A s.heap H locs → lv_has ls 3 [(0, .ref (a 0)), (1, .int p1), (2, .int v1)] → lp (fun _ _ => none : Int32 → HC → Option (Int32 × HC)) (f_X7_write_b18 p1) n v1 X2 = some r → W p l e RM_X7_write s m (([.ref (a 0), .int p1] : List Value).toArray) below meth c H locs 0 0 (MQ below (QI D A (fun (u : HC) => (kM cI cZ a u)) r) (([.ref (a 0), .int p1] : List Value).toArray) s 0 0 A) (F0 m 18 ls []) := by
      intro n
      induction n with
      | zero => intro v1 X2 H locs ls _ _ _ _ hf; cases (show (none : Option (Int32 × HC)) = some r from hf)
      | succ n ih18 =>
        intro v1 X2 H locs ls hP hD hS hl hf
        have hf : (f_X7_write_b18 p1) (lp (fun _ _ => none : Int32 → HC → Option (Int32 × HC)) (f_X7_write_b18 p1) n) v1 X2 = some r := hf
        generalize lp (fun _ _ => none : Int32 → HC → Option (Int32 × HC)) (f_X7_write_b18 p1) n = rc18 at ih18 hf
        unfold f_X7_write_b18 at hf
        refine lv_iload_n hx hb dX7_write_18 rfl (lv_at hl 2 rfl) ?_
        refine lv_iconst (v := (5 : Int32)) hx hb dX7_write_19 (by decide) ?_
        refine lv_icmp_ge (tgt := 43) hx hb dX7_write_20 (by decide) (fun cc20 => ?_) (fun cc20 => ?_)
        · have hf := if_t cc20 hf
          refine lv_iconst (v := (0 : Int32)) hx hb dX7_write_43 (by decide) ?_
          refine lv_istore_n (lv' := [(2, .int (0 : Int32)), (0, .ref (a 0)), (1, .int p1)]) hx hb dX7_write_44 rfl hl (by decide) rfl (fun ls hl => ?_)
          have L45 : ∀ (n : Nat) (v3 : Int32) (X4 : HC) (H : Heap) (locs : List Loc) (ls : Array Slot), va_P D vwCl (kM cI cZ a X4) H → va_D A (kM cI cZ a X4) → va_S A s.heap H locs → lv_has ls 3 [(0, .ref (a 0)), (1, .int p1), (2, .int v3)] → lp (fun _ _ => none : Int32 → HC → Option (Int32 × HC)) (f_X7_write_b45 p1) n v3 X4 = some r → W p l e RM_X7_write s m (([.ref (a 0), .int p1] : List Value).toArray) below meth c H locs 0 0 (MQ below (QI D A (fun (u : HC) => (kM cI cZ a u)) r) (([.ref (a 0), .int p1] : List Value).toArray) s 0 0 A) (F0 m 45 ls []) := by
            intro n
            induction n with
            | zero => intro v3 X4 H locs ls _ _ _ _ hf; cases (show (none : Option (Int32 × HC)) = some r from hf)
            | succ n ih45 =>
              intro v3 X4 H locs ls hP hD hS hl hf
              have hf : (f_X7_write_b45 p1) (lp (fun _ _ => none : Int32 → HC → Option (Int32 × HC)) (f_X7_write_b45 p1) n) v3 X4 = some r := hf
              generalize lp (fun _ _ => none : Int32 → HC → Option (Int32 × HC)) (f_X7_write_b45 p1) n = rc45 at ih45 hf
              unfold f_X7_write_b45 at hf
              refine lv_iload_n hx hb dX7_write_45 rfl (lv_at hl 2 rfl) ?_
              refine lv_bipush (v := (20 : Int32)) hx hb dX7_write_46 (by decide) ?_
              have J64 : ∀ (X5 : HC) (H : Heap) (locs : List Loc) (ls : Array Slot), va_P D vwCl (kM cI cZ a X5) H → va_D A (kM cI cZ a X5) → va_S A s.heap H locs → lv_has ls 3 [(0, .ref (a 0)), (1, .int p1), (2, .int v3)] → f_X7_write_j64 p1 v3 X5 = some r → W p l e RM_X7_write s m (([.ref (a 0), .int p1] : List Value).toArray) below meth c H locs 0 0 (MQ below (QI D A (fun (u : HC) => (kM cI cZ a u)) r) (([.ref (a 0), .int p1] : List Value).toArray) s 0 0 A) (F0 m 64 ls []) := by
                intro X5 H locs ls hP hD hS hl hf
                unfold f_X7_write_j64 at hf
                refine lv_iload_n hx hb dX7_write_64 rfl (lv_at hl 2 rfl) ?_
                refine lv_bipush (v := (20 : Int32)) hx hb dX7_write_65 (by decide) ?_
                refine lv_icmp_ne (tgt := 74) hx hb dX7_write_67 (by decide) (fun cc67 => ?_) (fun cc67 => ?_)
                · have hf := if_f cc67 hf
                  refine lv_iload_n hx hb dX7_write_74 rfl (lv_at hl 1 rfl) ?_
                  refine lv_iconst (v := (-1 : Int32)) hx hb dX7_write_75 (by decide) ?_
                  refine lv_icmp_ne (tgt := 83) hx hb dX7_write_76 (by decide) (fun cc76 => ?_) (fun cc76 => ?_)
                  · have hf := if_f cc76 hf
                    refine lv_aload_n hx hb dX7_write_83 rfl (lv_at hl 0 rfl) ?_
                    refine va_get (D := D) (ci := 7) (v := .ref (a 17)) (C := RX7) (T := TX7) (N := 32) hx hb hG inG7 hown hK hP 0 at_M_0_0 rfl 31 (by decide) (hG _ g_595) (fun _ h9 => h9) rfl dX7_write_84 ?_
                    refine lv_iload_n hx hb dX7_write_87 rfl (lv_at hl 1 rfl) ?_
                    obtain ⟨hb88, hf⟩ := gd hf
                    refine va_iald (cA := cI) (n := 5) (f := X5 17) hx hb hK hP 17 0 at_M_0_17 rfl (inb_in hb88) dX7_write_88 ?_
                    exact W.iret (v := (X5 17 (Int32.toNatClampNeg p1))) hx hb hr (fun t ht hW => ⟨⟨(X5 17 (Int32.toNatClampNeg p1)), X5, rfl, ⟨pr_1 hf, pr_2 hf⟩, by rw [ht]; exact hP, hD⟩, hS.F ht⟩) hS.2.2 dX7_write_89
                  · have hf := if_t cc76 hf
                    refine lv_iload_n hx hb dX7_write_79 rfl (lv_at hl 2 rfl) ?_
                    refine lv_goto (tgt := 89) hx hb dX7_write_80 (by decide) ?_
                    exact W.iret (v := v3) hx hb hr (fun t ht hW => ⟨⟨v3, X5, rfl, ⟨pr_1 hf, pr_2 hf⟩, by rw [ht]; exact hP, hD⟩, hS.F ht⟩) hS.2.2 dX7_write_89
                · have hf := if_t cc67 hf
                  refine lv_iconst (v := (-1 : Int32)) hx hb dX7_write_70 (by decide) ?_
                  refine lv_goto (tgt := 89) hx hb dX7_write_71 (by decide) ?_
                  exact W.iret (v := (-1 : Int32)) hx hb hr (fun t ht hW => ⟨⟨(-1 : Int32), X5, rfl, ⟨pr_1 hf, pr_2 hf⟩, by rw [ht]; exact hP, hD⟩, hS.F ht⟩) hS.2.2 dX7_write_89
              refine lv_icmp_ge (tgt := 64) hx hb dX7_write_48 (by decide) (fun cc48 => ?_) (fun cc48 => ?_)
              · have hf := if_t cc48 hf
                exact J64 X4 _ _ _ hP hD hS (lv_sub hl [0, 1, 2] rfl) hf
              · have hf := if_f cc48 hf
                refine lv_aload_n hx hb dX7_write_51 rfl (lv_at hl 0 rfl) ?_
                obtain ⟨q6, hq6, hf⟩ := bd_x hf
                have hFc := freeS hD hS hA
                refine va_calli (va_runV (As := []) (rest := []) ⟨hx, hb, hml, hown, hG⟩ (c_X7_writes l D cI cZ a X4 H.size hq6) (cwV 0 hG (gV g_786 g_787 g_64 g_77 g_788) rfl rfl rfl (by decide +kernel) ⟨Nat.le_of_ble_eq_true rfl, Nat.le_of_ble_eq_true rfl⟩) ⟨pre_blind, va_recv hK hP (ci := 7) (q0 := 0) rfl rfl, fun U hU hW => ⟨rfl, pre_of hP hK hD hnw hU hW⟩⟩ rfl rfl hl.1 rfl (lv_room (Nat.le_of_ble_eq_true rfl)) dX7_write_52 ⟨Nat.le_of_ble_eq_true rfl, Nat.le_of_ble_eq_true rfl⟩) hS (fun q _ h => hFc q h) hFc (fun v u t H locs ht hvm hw hB hz1 hk1 hS => ?_)
                obtain ⟨rfl, rfl⟩ := hw
                obtain ⟨hP1, hD1⟩ := hB
                rw [ht] at hP1
                have hP := hP1
                have hD := hD1.weaken (fun _ q _ h => hFc q.1 h)
                refine lv_if_eq (tgt := 64) hx hb dX7_write_55 (by decide) (fun cc55 => ?_) (fun cc55 => ?_)
                · have hf := if_t cc55 hf
                  exact J64 q6.2 _ _ _ hP hD hS (lv_sub hl [0, 1, 2] rfl) hf
                · have hf := if_f cc55 hf
                  obtain ⟨v7, ev7⟩ : ∃ y : Int32, y = (v3 + (1 : Int32)) := ⟨_, rfl⟩
                  have hf := nm_x ev7 hf
                  refine lv_iinc (v := v7) (lv' := [(2, .int v7), (0, .ref (a 0)), (1, .int p1)]) hx hb dX7_write_58 hl (k := 2) rfl (by rw [ev7]; rfl) (by decide) rfl (fun ls hl => ?_)
                  refine lv_goto (tgt := 45) hx hb dX7_write_61 (by decide) ?_
                  exact ih45 v7 q6.2 _ _ _ hP hD hS (lv_sub hl [1, 2, 0] rfl) hf
          exact L45 FU (0 : Int32) X2 _ _ _ hP hD hS (lv_sub hl [1, 2, 0] rfl) hf
        · have hf := if_f cc20 hf
          refine lv_aload_n hx hb dX7_write_23 rfl (lv_at hl 0 rfl) ?_
          refine va_get (D := D) (ci := 7) (v := .ref (a 17)) (C := RX7) (T := TX7) (N := 32) hx hb hG inG7 hown hK hP 0 at_M_0_0 rfl 31 (by decide) (hG _ g_595) (fun _ h9 => h9) rfl dX7_write_24 ?_
          refine lv_iload_n hx hb dX7_write_27 rfl (lv_at hl 2 rfl) ?_
          refine lv_aload_n hx hb dX7_write_28 rfl (lv_at hl 0 rfl) ?_
          refine va_get (D := D) (ci := 7) (v := .ref (a 1)) (C := RX7) (T := TX7) (N := 32) hx hb hG inG7 hown hK hP 0 at_M_0_0 rfl 0 (by decide) (hG _ g_564) (fun _ h9 => h9) rfl dX7_write_29 ?_
          refine lv_iconst (v := (0 : Int32)) hx hb dX7_write_32 (by decide) ?_
          refine lv_iload_n hx hb dX7_write_33 rfl (lv_at hl 2 rfl) ?_
          refine lv_iadd hx hb dX7_write_34 ?_
          obtain ⟨hb35, hf⟩ := gd hf
          refine va_iald (cA := cI) (n := 141) (f := X2 1) hx hb hK hP 1 0 at_M_0_1 rfl (inb_in hb35) dX7_write_35 ?_
          obtain ⟨hb36, hf⟩ := gd hf
          refine va_iast (cA := cI) (n := 5) (f := X2 17) hx hb hK hP hD hS 17 0 at_M_0_17 rfl (inb_in hb36) dX7_write_36 (fun H locs hP hD hS => ?_)
          obtain ⟨X8, eX8⟩ : ∃ y : HC, y = (sa X2 17 v1 (X2 1 (Int32.toNatClampNeg ((0 : Int32) + v1)))) := ⟨_, rfl⟩
          have hf := nm_x eX8 hf
          have hP := wP (sa_M_0_17.trans (congrArg (fun z : HC => (kM cI cZ a z)) eX8.symm)) hP
          have hD := wD (sa_M_0_17.trans (congrArg (fun z : HC => (kM cI cZ a z)) eX8.symm)) hD
          obtain ⟨v9, ev9⟩ : ∃ y : Int32, y = (v1 + (1 : Int32)) := ⟨_, rfl⟩
          have hf := nm_x ev9 hf
          refine lv_iinc (v := v9) (lv' := [(2, .int v9), (0, .ref (a 0)), (1, .int p1)]) hx hb dX7_write_37 hl (k := 2) rfl (by rw [ev9]; rfl) (by decide) rfl (fun ls hl => ?_)
          refine lv_goto (tgt := 18) hx hb dX7_write_40 (by decide) ?_
          exact ih18 v9 X8 _ _ _ hP hD hS (lv_sub hl [1, 2, 0] rfl) hf
    exact L18 FU (0 : Int32) x _ _ _ hP hD hS (lv_sub hl [1, 2, 0] rfl) hf
  refine lv_icmp_eq (tgt := 16) hx hb dX7_write_2 (by decide) (fun cc2 => ?_) (fun cc2 => ?_)
  · have hf := if_t cc2 hf
    exact J16  _ _ _ hP hD hS (lv_sub hl [0, 1] rfl) hf
  · have hf := if_f cc2 hf
    refine lv_aload_n hx hb dX7_write_5 rfl (lv_at hl 0 rfl) ?_
    refine lv_iload_n hx hb dX7_write_6 rfl (lv_at hl 1 rfl) ?_
    obtain ⟨q10, hq10, hf⟩ := bd_x hf
    have hFc := freeS hD hS hA
    refine va_calli (va_runV (As := [.int p1]) (rest := []) ⟨hx, hb, hml, hown, hG⟩ (c_X7_isFighter l D cI cZ a x p1 s.heap.size hq10) (cwV 1 hG (gV g_673 g_674 g_47 g_77 g_675) rfl rfl rfl (by decide +kernel) ⟨Nat.le_of_ble_eq_true rfl, Nat.le_of_ble_eq_true rfl⟩) ⟨pre_blind, va_recv hK hP (ci := 7) (q0 := 0) rfl rfl, fun U hU hW => ⟨rfl, pre_of hP hK hD hnw hU hW⟩⟩ rfl rfl hl.1 rfl (lv_room (Nat.le_of_ble_eq_true rfl)) dX7_write_7 ⟨Nat.le_of_ble_eq_true rfl, Nat.le_of_ble_eq_true rfl⟩) hS (fun q _ h => hFc q h) hFc (fun v u t H locs ht hvm hw hB hz1 hk1 hS => ?_)
    have hw := hw.symm; subst hw
    obtain ⟨hP1, hD1⟩ := hB
    rw [ht] at hP1
    have hP := hP1
    have hD := hD1.weaken (fun _ q _ h => hFc q.1 h)
    refine lv_if_ne (tgt := 16) hx hb dX7_write_10 (by decide) (fun cc10 => ?_) (fun cc10 => ?_)
    · have hf := if_f cc10 hf
      exact J16  _ _ _ hP hD hS (lv_sub hl [0, 1] rfl) hf
    · have hf := if_t cc10 hf
      refine lv_ldc hx hb hown (hG _ g_676) dX7_write_13 ?_
      exact W.iret (v := (-1000000001 : Int32)) hx hb hr (fun t ht hW => ⟨⟨(-1000000001 : Int32), x, rfl, ⟨pr_1 hf, pr_2 hf⟩, by rw [ht]; exact hP, hD⟩, hS.F ht⟩) hS.2.2 dX7_write_15
def f_X7_divisor_b4  (rc4 : Int32 → Int32 → Option (Int32)) (v1 : Int32) (v2 : Int32) : Option (Int32) := (if v2 = 0 then some v1 else (if ¬ v2 = 0 then nm (v1 - v1 / v2 * v2) (fun (v3 : Int32) => rc4 v2 v3) else none))
def f_X7_divisor (p1 : Int32) (p2 : Int32) : Option (Int32) := lp (fun _ _ => none : Int32 → Int32 → Option (Int32)) f_X7_divisor_b4 FU p1 p2
abbrev RM_X7_divisor : Room := { frames := 0, cells := 0, slots := 0, locals := 0 }
set_option maxHeartbeats 4000000 in
set_option maxRecDepth 100000 in
theorem c_X7_divisor (l : Launch) (D : va_G) (cI cZ : ClassId)  (p1 : Int32) (p2 : Int32) (sz : Nat) {r : Int32} (hf : f_X7_divisor p1 p2 = some r) : Met l yX7_divisor (wM yX7_divisor cX7_divisor 5 (some .int)) RM_X7_divisor (va_Pc [.int p1, .int p2] (pre D cI cZ ([] : va_W) sz)) (QI0 D (va_A ([] : va_W) sz) ([] : va_W) r) 0 0 (va_A ([] : va_W) sz) := by
  unfold f_X7_divisor at hf
  refine Met.ofW (cc := cX7_divisor) (maxL := 5) (ret := (some .int)) (by decide) rfl ?_
  intro p e s m args below meth c s₁ B hml hv
  obtain ⟨rfl, hsz, hP, hK, hD0, hnw⟩ := hv
  have hx := B.exec
  have hb := B.bytes
  have hr := B.returns
  have hts := atoms_spec (ws := wM yX7_divisor cX7_divisor 5 (some .int)) B.pre
  have hG : ∀ w ∈ GW, w.before (([.int p1, .int p2] : List Value).toArray) s = true := fun w h => hts w (List.mem_cons_of_mem _ h)
  have hown : s.vm.findClass RX7 = some m.cls := findClass_of_methodNamed B.named
  have hlocks := B.notSynchronized
  subst hsz
  have hD := hD0.self (sz := s.heap.size)
  generalize hAe : va_A ([] : va_W) s.heap.size = A at hD ⊢
  have hA : ∀ q : Nat, s.heap.size ≤ q → A q := fun q h => by rw [← hAe]; exact Or.inr h
  have hS : va_S A s.heap s.heap [] := va_S.rf
  have hl := lv_entry ([.int p1, .int p2]) (n := 5) (Nat.le_of_ble_eq_true rfl)
  rw [lg_entry_eq]
  generalize (lg_sl ([.int p1, .int p2]) ++ List.replicate (5 - (lg_sl ([.int p1, .int p2])).length) Slot.unset).toArray = ls at hl ⊢
  have hl : lv_has ls 5 [(0, .int p1), (1, .int p2)] := hl
  show W p l e RM_X7_divisor s m (([.int p1, .int p2] : List Value).toArray) below meth c s.heap [] 0 0 (MQ below (QI0 D A ([] : va_W) r) (([.int p1, .int p2] : List Value).toArray) s 0 0 A) (F0 m 0 ls [])
  refine lv_iload_n hx hb dX7_divisor_0 rfl (lv_at hl 0 rfl) ?_
  refine lv_istore_n (lv' := [(2, .int p1), (0, .int p1), (1, .int p2)]) hx hb dX7_divisor_1 rfl hl (by decide) rfl (fun ls hl => ?_)
  refine lv_iload_n hx hb dX7_divisor_2 rfl (lv_at hl 2 rfl) ?_
  refine lv_istore_n (lv' := [(3, .int p2), (2, .int p1), (0, .int p1), (1, .int p2)]) hx hb dX7_divisor_3 rfl hl (by decide) rfl (fun ls hl => ?_)
  have L4 : ∀ (n : Nat) (v1 : Int32) (v2 : Int32) (H : Heap) (locs : List Loc) (ls : Array Slot), va_P D vwCl ([] : va_W) H → va_D A ([] : va_W) → va_S A s.heap H locs → lv_has ls 5 [(2, .int v1), (3, .int v2)] → lp (fun _ _ => none : Int32 → Int32 → Option (Int32)) f_X7_divisor_b4 n v1 v2 = some r → W p l e RM_X7_divisor s m (([.int p1, .int p2] : List Value).toArray) below meth c H locs 0 0 (MQ below (QI0 D A ([] : va_W) r) (([.int p1, .int p2] : List Value).toArray) s 0 0 A) (F0 m 4 ls []) := by
    intro n
    induction n with
    | zero => intro v1 v2 H locs ls _ _ _ _ hf; cases (show (none : Option (Int32)) = some r from hf)
    | succ n ih4 =>
      intro v1 v2 H locs ls hP hD hS hl hf
      have hf : f_X7_divisor_b4 (lp (fun _ _ => none : Int32 → Int32 → Option (Int32)) f_X7_divisor_b4 n) v1 v2 = some r := hf
      generalize lp (fun _ _ => none : Int32 → Int32 → Option (Int32)) f_X7_divisor_b4 n = rc4 at ih4 hf
      unfold f_X7_divisor_b4 at hf
      refine lv_iload_n hx hb dX7_divisor_4 rfl (lv_at hl 1 rfl) ?_
      refine lv_if_eq (tgt := 21) hx hb dX7_divisor_5 (by decide) (fun cc5 => ?_) (fun cc5 => ?_)
      · have hf := if_t cc5 hf
        refine lv_iload_n hx hb dX7_divisor_21 rfl (lv_at hl 0 rfl) ?_
        exact W.iret (v := v1) hx hb hr (fun t ht hW => ⟨⟨v1, (), rfl, Option.some.inj hf, by rw [ht]; exact hP, hD⟩, hS.F ht⟩) hS.2.2 dX7_divisor_22
      · have hf := if_f cc5 hf
        refine lv_iload_n hx hb dX7_divisor_8 rfl (lv_at hl 0 rfl) ?_
        refine lv_iload_n hx hb dX7_divisor_9 rfl (lv_at hl 1 rfl) ?_
        obtain ⟨hz10, hf⟩ := gd hf
        refine lv_irem hx hb dX7_divisor_10 hz10 ?_
        refine lv_topi (fun v3 ev3 => ?_)
        have hf := nm_x ev3 hf
        refine lv_istore (lv' := [(4, .int v3), (2, .int v1), (3, .int v2)]) hx hb dX7_divisor_11 hl (by decide) rfl (fun ls hl => ?_)
        refine lv_iload_n hx hb dX7_divisor_13 rfl (lv_at hl 2 rfl) ?_
        refine lv_istore_n (lv' := [(2, .int v2), (4, .int v3), (3, .int v2)]) hx hb dX7_divisor_14 rfl hl (by decide) rfl (fun ls hl => ?_)
        refine lv_iload hx hb dX7_divisor_15 (lv_at hl 1 rfl) ?_
        refine lv_istore_n (lv' := [(3, .int v3), (2, .int v2), (4, .int v3)]) hx hb dX7_divisor_17 rfl hl (by decide) rfl (fun ls hl => ?_)
        refine lv_goto (tgt := 4) hx hb dX7_divisor_18 (by decide) ?_
        exact ih4 v2 v3 _ _ _ hP hD hS (lv_sub hl [1, 0] rfl) hf
  exact L4 FU p1 p2 _ _ _ hP hD hS (lv_sub hl [1, 0] rfl) hf
def f_X7_tells_j110 (rc46 : Int32 → Int32 → Int32 → Option (Int32)) (v5 : Int32) (v6 : Int32) (v11 : Int32) (v12 : Int32) : Option (Int32) := nm (v5 + v12) (fun (v13 : Int32) => nm (v6 + (1 : Int32)) (fun (v14 : Int32) => rc46 v11 v13 v14))
def f_X7_tells_j109 (rc46 : Int32 → Int32 → Int32 → Option (Int32)) (v5 : Int32) (v6 : Int32) (v11 : Int32)  : Option (Int32) := f_X7_tells_j110 rc46 v5 v6 v11 (0 : Int32)
def f_X7_tells_j84 (x : HC) (p2 : Int32) (rc46 : Int32 → Int32 → Int32 → Option (Int32)) (v4 : Int32) (v5 : Int32) (v6 : Int32) (v9 : Int32) (v10 : Int32) : Option (Int32) := nm (v4 + v10) (fun (v11 : Int32) => (if v9 = 0 then f_X7_tells_j109 rc46 v5 v6 v11 else (if inb v6 5 then (if (x 5 (Int32.toNatClampNeg v6)) < p2 then f_X7_tells_j109 rc46 v5 v6 v11 else f_X7_tells_j110 rc46 v5 v6 v11 (1 : Int32)) else none)))
def f_X7_tells_j70 (x : HC) (p2 : Int32) (rc46 : Int32 → Int32 → Int32 → Option (Int32)) (v4 : Int32) (v5 : Int32) (v6 : Int32) (v9 : Int32) : Option (Int32) := (if v9 = 0 then f_X7_tells_j84 x p2 rc46 v4 v5 v6 v9 (0 : Int32) else f_X7_tells_j84 x p2 rc46 v4 v5 v6 v9 (1 : Int32))
def f_X7_tells_b46 (x : HC) (p1 : Int32) (p2 : Int32) (p3 : Int32) (rc46 : Int32 → Int32 → Int32 → Option (Int32)) (v4 : Int32) (v5 : Int32) (v6 : Int32) : Option (Int32) := (if (x 0 6) ≤ v6 then (if v4 = 0 then some p3 else bd (f_X7_divisor v5 v4) (fun (q7 : Int32) => (if p3 = 0 then (if ¬ q7 = 0 then some (v5 / q7) else none) else (if ¬ q7 = 0 then some (v4 / q7) else none)))) else bd (f_X7_readsNow x v6) (fun (q8 : Int32) => (if q8 = p1 then f_X7_tells_j70 x p2 rc46 v4 v5 v6 (1 : Int32) else f_X7_tells_j70 x p2 rc46 v4 v5 v6 (0 : Int32))))
def f_X7_tells (x : HC) (p1 : Int32) (p2 : Int32) (p3 : Int32) : Option (Int32) := bd (f_X7_in (Int32.toInt64 p1) (0 : Int64) (99 : Int64)) (fun (q1 : Int32) => (if q1 = 0 then some (-1000000002 : Int32) else bd (f_X7_in (Int32.toInt64 p2) (0 : Int64) (99 : Int64)) (fun (q2 : Int32) => (if q2 = 0 then some (-1000000002 : Int32) else bd (f_X7_in (Int32.toInt64 p3) (0 : Int64) (1 : Int64)) (fun (q3 : Int32) => (if q3 = 0 then some (-1000000002 : Int32) else lp (fun _ _ _ => none : Int32 → Int32 → Int32 → Option (Int32)) (f_X7_tells_b46 x p1 p2 p3) FU (0 : Int32) (0 : Int32) (0 : Int32)))))))
abbrev RM_X7_tells : Room := { frames := 2, cells := 0, slots := 0, locals := 44 }
set_option maxHeartbeats 4000000 in
set_option maxRecDepth 100000 in
theorem c_X7_tells (l : Launch) (D : va_G) (cI cZ : ClassId) (a : Nat → Nat) (x : HC) (p1 : Int32) (p2 : Int32) (p3 : Int32) (sz : Nat) {r : Int32} (hf : f_X7_tells x p1 p2 p3 = some r) : Met l yX7_tells (wM yX7_tells cX7_tells 8 (some .int)) RM_X7_tells (va_Pc [.ref (a 0), .int p1, .int p2, .int p3] (pre D cI cZ (kM cI cZ a x) sz)) (QI0 D (va_A (kM cI cZ a x) sz) (kM cI cZ a x) r) 0 0 (va_A (kM cI cZ a x) sz) := by
  unfold f_X7_tells at hf
  refine Met.ofW (cc := cX7_tells) (maxL := 8) (ret := (some .int)) (by decide) rfl ?_
  intro p e s m args below meth c s₁ B hml hv
  obtain ⟨rfl, hsz, hP, hK, hD0, hnw⟩ := hv
  have hx := B.exec
  have hb := B.bytes
  have hr := B.returns
  have hts := atoms_spec (ws := wM yX7_tells cX7_tells 8 (some .int)) B.pre
  have hG : ∀ w ∈ GW, w.before (([.ref (a 0), .int p1, .int p2, .int p3] : List Value).toArray) s = true := fun w h => hts w (List.mem_cons_of_mem _ h)
  have hown : s.vm.findClass RX7 = some m.cls := findClass_of_methodNamed B.named
  have hlocks := B.notSynchronized
  subst hsz
  have hD := hD0.self (sz := s.heap.size)
  generalize hAe : va_A (kM cI cZ a x) s.heap.size = A at hD ⊢
  have hA : ∀ q : Nat, s.heap.size ≤ q → A q := fun q h => by rw [← hAe]; exact Or.inr h
  have hS : va_S A s.heap s.heap [] := va_S.rf
  have hl := lv_entry ([.ref (a 0), .int p1, .int p2, .int p3]) (n := 8) (Nat.le_of_ble_eq_true rfl)
  rw [lg_entry_eq]
  generalize (lg_sl ([.ref (a 0), .int p1, .int p2, .int p3]) ++ List.replicate (8 - (lg_sl ([.ref (a 0), .int p1, .int p2, .int p3])).length) Slot.unset).toArray = ls at hl ⊢
  have hl : lv_has ls 8 [(0, .ref (a 0)), (1, .int p1), (2, .int p2), (3, .int p3)] := hl
  show W p l e RM_X7_tells s m (([.ref (a 0), .int p1, .int p2, .int p3] : List Value).toArray) below meth c s.heap [] 0 0 (MQ below (QI0 D A (kM cI cZ a x) r) (([.ref (a 0), .int p1, .int p2, .int p3] : List Value).toArray) s 0 0 A) (F0 m 0 ls [])
  refine lv_iload_n hx hb dX7_tells_0 rfl (lv_at hl 1 rfl) ?_
  refine lv_i2l hx hb dX7_tells_1 rfl ?_
  refine lv_lconst (v := (0 : Int64)) hx hb dX7_tells_2 (by decide) ?_
  refine lv_ldc2 hx hb hown (hG _ g_741) dX7_tells_3 ?_
  obtain ⟨q1, hq1, hf⟩ := bd_x hf
  have hFc := va_free (wc := []) hD hS hA [] rfl
  refine va_calli (va_runS (As := [.long (Int32.toInt64 p1), .long (0 : Int64), .long (99 : Int64)]) (rest := []) ⟨hx, hb, hml, hown, hG⟩ (c_X7_in l D cI cZ (Int32.toInt64 p1) (0 : Int64) (99 : Int64) s.heap.size hq1) (cwS 3 hG (gS g_602 g_603 g_77 g_604) rfl rfl rfl (by decide +kernel) ⟨Nat.le_of_ble_eq_true rfl, Nat.le_of_ble_eq_true rfl⟩) ⟨pre_blind, fun U hU hW => ⟨rfl, pre_of P_nil hK D_nil hnw hU hW⟩⟩ rfl rfl hl.1 rfl (lv_room (Nat.le_of_ble_eq_true rfl)) dX7_tells_6 ⟨Nat.le_of_ble_eq_true rfl, Nat.le_of_ble_eq_true rfl⟩) hS (fun q _ h => hFc q h) hFc (fun v u t H locs ht hvm hw hB hz1 hk1 hS => ?_)
  have hw := hw.symm; subst hw
  obtain ⟨hP1, hD1⟩ := hB
  rw [ht] at hP1
  obtain ⟨hP, hD⟩ := back hP hD [] rfl rfl hk1 hFc hP1 hD1
  refine lv_if_eq (tgt := 34) hx hb dX7_tells_9 (by decide) (fun cc9 => ?_) (fun cc9 => ?_)
  · have hf := if_t cc9 hf
    refine lv_ldc hx hb hown (hG _ g_605) dX7_tells_34 ?_
    exact W.iret (v := (-1000000002 : Int32)) hx hb hr (fun t ht hW => ⟨⟨(-1000000002 : Int32), (), rfl, Option.some.inj hf, by rw [ht]; exact hP, hD⟩, hS.F ht⟩) hS.2.2 dX7_tells_36
  · have hf := if_f cc9 hf
    refine lv_iload_n hx hb dX7_tells_12 rfl (lv_at hl 2 rfl) ?_
    refine lv_i2l hx hb dX7_tells_13 rfl ?_
    refine lv_lconst (v := (0 : Int64)) hx hb dX7_tells_14 (by decide) ?_
    refine lv_ldc2 hx hb hown (hG _ g_741) dX7_tells_15 ?_
    obtain ⟨q2, hq2, hf⟩ := bd_x hf
    have hFc := va_free (wc := []) hD hS hA [] rfl
    refine va_calli (va_runS (As := [.long (Int32.toInt64 p2), .long (0 : Int64), .long (99 : Int64)]) (rest := []) ⟨hx, hb, hml, hown, hG⟩ (c_X7_in l D cI cZ (Int32.toInt64 p2) (0 : Int64) (99 : Int64) H.size hq2) (cwS 3 hG (gS g_602 g_603 g_77 g_604) rfl rfl rfl (by decide +kernel) ⟨Nat.le_of_ble_eq_true rfl, Nat.le_of_ble_eq_true rfl⟩) ⟨pre_blind, fun U hU hW => ⟨rfl, pre_of P_nil hK D_nil hnw hU hW⟩⟩ rfl rfl hl.1 rfl (lv_room (Nat.le_of_ble_eq_true rfl)) dX7_tells_18 ⟨Nat.le_of_ble_eq_true rfl, Nat.le_of_ble_eq_true rfl⟩) hS (fun q _ h => hFc q h) hFc (fun v u t H locs ht hvm hw hB hz1 hk1 hS => ?_)
    have hw := hw.symm; subst hw
    obtain ⟨hP1, hD1⟩ := hB
    rw [ht] at hP1
    obtain ⟨hP, hD⟩ := back hP hD [] rfl rfl hk1 hFc hP1 hD1
    refine lv_if_eq (tgt := 34) hx hb dX7_tells_21 (by decide) (fun cc21 => ?_) (fun cc21 => ?_)
    · have hf := if_t cc21 hf
      refine lv_ldc hx hb hown (hG _ g_605) dX7_tells_34 ?_
      exact W.iret (v := (-1000000002 : Int32)) hx hb hr (fun t ht hW => ⟨⟨(-1000000002 : Int32), (), rfl, Option.some.inj hf, by rw [ht]; exact hP, hD⟩, hS.F ht⟩) hS.2.2 dX7_tells_36
    · have hf := if_f cc21 hf
      refine lv_iload_n hx hb dX7_tells_24 rfl (lv_at hl 3 rfl) ?_
      refine lv_i2l hx hb dX7_tells_25 rfl ?_
      refine lv_lconst (v := (0 : Int64)) hx hb dX7_tells_26 (by decide) ?_
      refine lv_lconst (v := (1 : Int64)) hx hb dX7_tells_27 (by decide) ?_
      obtain ⟨q3, hq3, hf⟩ := bd_x hf
      have hFc := va_free (wc := []) hD hS hA [] rfl
      refine va_calli (va_runS (As := [.long (Int32.toInt64 p3), .long (0 : Int64), .long (1 : Int64)]) (rest := []) ⟨hx, hb, hml, hown, hG⟩ (c_X7_in l D cI cZ (Int32.toInt64 p3) (0 : Int64) (1 : Int64) H.size hq3) (cwS 3 hG (gS g_602 g_603 g_77 g_604) rfl rfl rfl (by decide +kernel) ⟨Nat.le_of_ble_eq_true rfl, Nat.le_of_ble_eq_true rfl⟩) ⟨pre_blind, fun U hU hW => ⟨rfl, pre_of P_nil hK D_nil hnw hU hW⟩⟩ rfl rfl hl.1 rfl (lv_room (Nat.le_of_ble_eq_true rfl)) dX7_tells_28 ⟨Nat.le_of_ble_eq_true rfl, Nat.le_of_ble_eq_true rfl⟩) hS (fun q _ h => hFc q h) hFc (fun v u t H locs ht hvm hw hB hz1 hk1 hS => ?_)
      have hw := hw.symm; subst hw
      obtain ⟨hP1, hD1⟩ := hB
      rw [ht] at hP1
      obtain ⟨hP, hD⟩ := back hP hD [] rfl rfl hk1 hFc hP1 hD1
      refine lv_if_ne (tgt := 37) hx hb dX7_tells_31 (by decide) (fun cc31 => ?_) (fun cc31 => ?_)
      · have hf := if_f cc31 hf
        refine lv_iconst (v := (0 : Int32)) hx hb dX7_tells_37 (by decide) ?_
        refine lv_istore (lv' := [(4, .int (0 : Int32)), (0, .ref (a 0)), (1, .int p1), (2, .int p2), (3, .int p3)]) hx hb dX7_tells_38 hl (by decide) rfl (fun ls hl => ?_)
        refine lv_iconst (v := (0 : Int32)) hx hb dX7_tells_40 (by decide) ?_
        refine lv_istore (lv' := [(5, .int (0 : Int32)), (4, .int (0 : Int32)), (0, .ref (a 0)), (1, .int p1), (2, .int p2), (3, .int p3)]) hx hb dX7_tells_41 hl (by decide) rfl (fun ls hl => ?_)
        refine lv_iconst (v := (0 : Int32)) hx hb dX7_tells_43 (by decide) ?_
        refine lv_istore (lv' := [(6, .int (0 : Int32)), (5, .int (0 : Int32)), (4, .int (0 : Int32)), (0, .ref (a 0)), (1, .int p1), (2, .int p2), (3, .int p3)]) hx hb dX7_tells_44 hl (by decide) rfl (fun ls hl => ?_)
        have L46 : ∀ (n : Nat) (v4 : Int32) (v5 : Int32) (v6 : Int32) (H : Heap) (locs : List Loc) (ls : Array Slot), va_P D vwCl (kM cI cZ a x) H → va_D A (kM cI cZ a x) → va_S A s.heap H locs → lv_has ls 8 [(0, .ref (a 0)), (1, .int p1), (2, .int p2), (3, .int p3), (4, .int v4), (5, .int v5), (6, .int v6)] → lp (fun _ _ _ => none : Int32 → Int32 → Int32 → Option (Int32)) (f_X7_tells_b46 x p1 p2 p3) n v4 v5 v6 = some r → W p l e RM_X7_tells s m (([.ref (a 0), .int p1, .int p2, .int p3] : List Value).toArray) below meth c H locs 0 0 (MQ below (QI0 D A (kM cI cZ a x) r) (([.ref (a 0), .int p1, .int p2, .int p3] : List Value).toArray) s 0 0 A) (F0 m 46 ls []) := by
          intro n
          induction n with
          | zero => intro v4 v5 v6 H locs ls _ _ _ _ hf; cases (show (none : Option (Int32)) = some r from hf)
          | succ n ih46 =>
            intro v4 v5 v6 H locs ls hP hD hS hl hf
            have hf : (f_X7_tells_b46 x p1 p2 p3) (lp (fun _ _ _ => none : Int32 → Int32 → Int32 → Option (Int32)) (f_X7_tells_b46 x p1 p2 p3) n) v4 v5 v6 = some r := hf
            generalize lp (fun _ _ _ => none : Int32 → Int32 → Int32 → Option (Int32)) (f_X7_tells_b46 x p1 p2 p3) n = rc46 at ih46 hf
            unfold f_X7_tells_b46 at hf
            refine lv_iload hx hb dX7_tells_46 (lv_at hl 6 rfl) ?_
            refine lv_aload_n hx hb dX7_tells_48 rfl (lv_at hl 0 rfl) ?_
            refine va_get (D := D) (ci := 7) (v := .int (x 0 6)) (C := RX7) (T := TX7) (N := 32) hx hb hG inG7 hown hK hP 0 at_M_0_0 rfl 6 (by decide) (hG _ g_570) (fun _ h9 => h9) rfl dX7_tells_49 ?_
            refine lv_icmp_ge (tgt := 119) hx hb dX7_tells_52 (by decide) (fun cc52 => ?_) (fun cc52 => ?_)
            · have hf := if_t cc52 hf
              refine lv_iload hx hb dX7_tells_119 (lv_at hl 4 rfl) ?_
              refine lv_if_ne (tgt := 126) hx hb dX7_tells_121 (by decide) (fun cc121 => ?_) (fun cc121 => ?_)
              · have hf := if_f cc121 hf
                refine lv_iload hx hb dX7_tells_126 (lv_at hl 5 rfl) ?_
                refine lv_iload hx hb dX7_tells_128 (lv_at hl 4 rfl) ?_
                obtain ⟨q7, hq7, hf⟩ := bd_x hf
                have hFc := va_free (wc := []) hD hS hA [] rfl
                refine va_calli (va_runS (As := [.int v5, .int v4]) (rest := []) ⟨hx, hb, hml, hown, hG⟩ (c_X7_divisor l D cI cZ v5 v4 H.size hq7) (cwS 2 hG (gS g_799 g_800 g_77 g_801) rfl rfl rfl (by decide +kernel) ⟨Nat.le_of_ble_eq_true rfl, Nat.le_of_ble_eq_true rfl⟩) ⟨pre_blind, fun U hU hW => ⟨rfl, pre_of P_nil hK D_nil hnw hU hW⟩⟩ rfl rfl hl.1 rfl (lv_room (Nat.le_of_ble_eq_true rfl)) dX7_tells_130 ⟨Nat.le_of_ble_eq_true rfl, Nat.le_of_ble_eq_true rfl⟩) hS (fun q _ h => hFc q h) hFc (fun v u t H locs ht hvm hw hB hz1 hk1 hS => ?_)
                have hw := hw.symm; subst hw
                obtain ⟨hP1, hD1⟩ := hB
                rw [ht] at hP1
                obtain ⟨hP, hD⟩ := back hP hD [] rfl rfl hk1 hFc hP1 hD1
                refine lv_istore (lv' := [(6, .int q7), (0, .ref (a 0)), (1, .int p1), (2, .int p2), (3, .int p3), (4, .int v4), (5, .int v5)]) hx hb dX7_tells_133 hl (by decide) rfl (fun ls hl => ?_)
                refine lv_iload_n hx hb dX7_tells_135 rfl (lv_at hl 4 rfl) ?_
                refine lv_if_ne (tgt := 147) hx hb dX7_tells_136 (by decide) (fun cc136 => ?_) (fun cc136 => ?_)
                · have hf := if_f cc136 hf
                  refine lv_iload hx hb dX7_tells_147 (lv_at hl 5 rfl) ?_
                  refine lv_iload hx hb dX7_tells_149 (lv_at hl 0 rfl) ?_
                  obtain ⟨hz151, hf⟩ := gd hf
                  refine lv_idiv hx hb dX7_tells_151 hz151 ?_
                  exact W.iret (v := (v4 / q7)) hx hb hr (fun t ht hW => ⟨⟨(v4 / q7), (), rfl, Option.some.inj hf, by rw [ht]; exact hP, hD⟩, hS.F ht⟩) hS.2.2 dX7_tells_152
                · have hf := if_t cc136 hf
                  refine lv_iload hx hb dX7_tells_139 (lv_at hl 6 rfl) ?_
                  refine lv_iload hx hb dX7_tells_141 (lv_at hl 0 rfl) ?_
                  obtain ⟨hz143, hf⟩ := gd hf
                  refine lv_idiv hx hb dX7_tells_143 hz143 ?_
                  refine lv_goto (tgt := 152) hx hb dX7_tells_144 (by decide) ?_
                  exact W.iret (v := (v5 / q7)) hx hb hr (fun t ht hW => ⟨⟨(v5 / q7), (), rfl, Option.some.inj hf, by rw [ht]; exact hP, hD⟩, hS.F ht⟩) hS.2.2 dX7_tells_152
              · have hf := if_t cc121 hf
                refine lv_iload_n hx hb dX7_tells_124 rfl (lv_at hl 3 rfl) ?_
                exact W.iret (v := p3) hx hb hr (fun t ht hW => ⟨⟨p3, (), rfl, Option.some.inj hf, by rw [ht]; exact hP, hD⟩, hS.F ht⟩) hS.2.2 dX7_tells_125
            · have hf := if_f cc52 hf
              refine lv_aload_n hx hb dX7_tells_55 rfl (lv_at hl 0 rfl) ?_
              refine lv_iload hx hb dX7_tells_56 (lv_at hl 6 rfl) ?_
              obtain ⟨q8, hq8, hf⟩ := bd_x hf
              have hFc := freeS hD hS hA
              refine va_calli (va_runV (As := [.int v6]) (rest := []) ⟨hx, hb, hml, hown, hG⟩ (c_X7_readsNow l D cI cZ a x v6 H.size hq8) (cwV 1 hG (gV g_677 g_678 g_48 g_77 g_679) rfl rfl rfl (by decide +kernel) ⟨Nat.le_of_ble_eq_true rfl, Nat.le_of_ble_eq_true rfl⟩) ⟨pre_blind, va_recv hK hP (ci := 7) (q0 := 0) rfl rfl, fun U hU hW => ⟨rfl, pre_of hP hK hD hnw hU hW⟩⟩ rfl rfl hl.1 rfl (lv_room (Nat.le_of_ble_eq_true rfl)) dX7_tells_58 ⟨Nat.le_of_ble_eq_true rfl, Nat.le_of_ble_eq_true rfl⟩) hS (fun q _ h => hFc q h) hFc (fun v u t H locs ht hvm hw hB hz1 hk1 hS => ?_)
              have hw := hw.symm; subst hw
              obtain ⟨hP1, hD1⟩ := hB
              rw [ht] at hP1
              have hP := hP1
              have hD := hD1.weaken (fun _ q _ h => hFc q.1 h)
              refine lv_iload_n hx hb dX7_tells_61 rfl (lv_at hl 1 rfl) ?_
              have J70 : ∀ (v9 : Int32) (H : Heap) (locs : List Loc) (ls : Array Slot), va_P D vwCl (kM cI cZ a x) H → va_D A (kM cI cZ a x) → va_S A s.heap H locs → lv_has ls 8 [(0, .ref (a 0)), (1, .int p1), (2, .int p2), (3, .int p3), (4, .int v4), (5, .int v5), (6, .int v6)] → f_X7_tells_j70 x p2 rc46 v4 v5 v6 v9 = some r → W p l e RM_X7_tells s m (([.ref (a 0), .int p1, .int p2, .int p3] : List Value).toArray) below meth c H locs 0 0 (MQ below (QI0 D A (kM cI cZ a x) r) (([.ref (a 0), .int p1, .int p2, .int p3] : List Value).toArray) s 0 0 A) (F0 m 70 ls [.int v9]) := by
                intro v9 H locs ls hP hD hS hl hf
                unfold f_X7_tells_j70 at hf
                refine lv_istore (lv' := [(7, .int v9), (0, .ref (a 0)), (1, .int p1), (2, .int p2), (3, .int p3), (4, .int v4), (5, .int v5), (6, .int v6)]) hx hb dX7_tells_70 hl (by decide) rfl (fun ls hl => ?_)
                refine lv_iload hx hb dX7_tells_72 (lv_at hl 5 rfl) ?_
                refine lv_iload hx hb dX7_tells_74 (lv_at hl 0 rfl) ?_
                have J84 : ∀ (v10 : Int32) (H : Heap) (locs : List Loc) (ls : Array Slot), va_P D vwCl (kM cI cZ a x) H → va_D A (kM cI cZ a x) → va_S A s.heap H locs → lv_has ls 8 [(0, .ref (a 0)), (1, .int p1), (2, .int p2), (3, .int p3), (5, .int v5), (6, .int v6), (7, .int v9)] → f_X7_tells_j84 x p2 rc46 v4 v5 v6 v9 v10 = some r → W p l e RM_X7_tells s m (([.ref (a 0), .int p1, .int p2, .int p3] : List Value).toArray) below meth c H locs 0 0 (MQ below (QI0 D A (kM cI cZ a x) r) (([.ref (a 0), .int p1, .int p2, .int p3] : List Value).toArray) s 0 0 A) (F0 m 84 ls [.int v10, .int v4]) := by
                  intro v10 H locs ls hP hD hS hl hf
                  unfold f_X7_tells_j84 at hf
                  refine lv_iadd hx hb dX7_tells_84 ?_
                  refine lv_topi (fun v11 ev11 => ?_)
                  have hf := nm_x ev11 hf
                  refine lv_istore (lv' := [(4, .int v11), (0, .ref (a 0)), (1, .int p1), (2, .int p2), (3, .int p3), (5, .int v5), (6, .int v6), (7, .int v9)]) hx hb dX7_tells_85 hl (by decide) rfl (fun ls hl => ?_)
                  refine lv_iload hx hb dX7_tells_87 (lv_at hl 5 rfl) ?_
                  refine lv_iload hx hb dX7_tells_89 (lv_at hl 7 rfl) ?_
                  have J110 : ∀ (v12 : Int32) (H : Heap) (locs : List Loc) (ls : Array Slot), va_P D vwCl (kM cI cZ a x) H → va_D A (kM cI cZ a x) → va_S A s.heap H locs → lv_has ls 8 [(0, .ref (a 0)), (1, .int p1), (2, .int p2), (3, .int p3), (4, .int v11), (6, .int v6)] → f_X7_tells_j110 rc46 v5 v6 v11 v12 = some r → W p l e RM_X7_tells s m (([.ref (a 0), .int p1, .int p2, .int p3] : List Value).toArray) below meth c H locs 0 0 (MQ below (QI0 D A (kM cI cZ a x) r) (([.ref (a 0), .int p1, .int p2, .int p3] : List Value).toArray) s 0 0 A) (F0 m 110 ls [.int v12, .int v5]) := by
                    intro v12 H locs ls hP hD hS hl hf
                    unfold f_X7_tells_j110 at hf
                    refine lv_iadd hx hb dX7_tells_110 ?_
                    refine lv_topi (fun v13 ev13 => ?_)
                    have hf := nm_x ev13 hf
                    refine lv_istore (lv' := [(5, .int v13), (0, .ref (a 0)), (1, .int p1), (2, .int p2), (3, .int p3), (4, .int v11), (6, .int v6)]) hx hb dX7_tells_111 hl (by decide) rfl (fun ls hl => ?_)
                    obtain ⟨v14, ev14⟩ : ∃ y : Int32, y = (v6 + (1 : Int32)) := ⟨_, rfl⟩
                    have hf := nm_x ev14 hf
                    refine lv_iinc (v := v14) (lv' := [(6, .int v14), (5, .int v13), (0, .ref (a 0)), (1, .int p1), (2, .int p2), (3, .int p3), (4, .int v11)]) hx hb dX7_tells_113 hl (k := 6) rfl (by rw [ev14]; rfl) (by decide) rfl (fun ls hl => ?_)
                    refine lv_goto (tgt := 46) hx hb dX7_tells_116 (by decide) ?_
                    exact ih46 v11 v13 v14 _ _ _ hP hD hS (lv_sub hl [2, 3, 4, 5, 6, 1, 0] rfl) hf
                  have J109 : ∀  (H : Heap) (locs : List Loc) (ls : Array Slot), va_P D vwCl (kM cI cZ a x) H → va_D A (kM cI cZ a x) → va_S A s.heap H locs → lv_has ls 8 [(0, .ref (a 0)), (1, .int p1), (2, .int p2), (3, .int p3), (4, .int v11), (6, .int v6)] → f_X7_tells_j109 rc46 v5 v6 v11  = some r → W p l e RM_X7_tells s m (([.ref (a 0), .int p1, .int p2, .int p3] : List Value).toArray) below meth c H locs 0 0 (MQ below (QI0 D A (kM cI cZ a x) r) (([.ref (a 0), .int p1, .int p2, .int p3] : List Value).toArray) s 0 0 A) (F0 m 109 ls [.int v5]) := by
                    intro  H locs ls hP hD hS hl hf
                    unfold f_X7_tells_j109 at hf
                    refine lv_iconst (v := (0 : Int32)) hx hb dX7_tells_109 (by decide) ?_
                    exact J110 (0 : Int32) _ _ _ hP hD hS (lv_sub hl [0, 1, 2, 3, 4, 5] rfl) hf
                  refine lv_if_eq (tgt := 109) hx hb dX7_tells_91 (by decide) (fun cc91 => ?_) (fun cc91 => ?_)
                  · have hf := if_t cc91 hf
                    exact J109  _ _ _ hP hD hS (lv_sub hl [1, 2, 3, 4, 0, 6] rfl) hf
                  · have hf := if_f cc91 hf
                    refine lv_aload_n hx hb dX7_tells_94 rfl (lv_at hl 1 rfl) ?_
                    refine va_get (D := D) (ci := 7) (v := .ref (a 5)) (C := RX7) (T := TX7) (N := 32) hx hb hG inG7 hown hK hP 0 at_M_0_0 rfl 8 (by decide) (hG _ g_572) (fun _ h9 => h9) rfl dX7_tells_95 ?_
                    refine lv_iload hx hb dX7_tells_98 (lv_at hl 6 rfl) ?_
                    obtain ⟨hb100, hf⟩ := gd hf
                    refine va_iald (cA := cI) (n := 5) (f := x 5) hx hb hK hP 5 0 at_M_0_5 rfl (inb_in hb100) dX7_tells_100 ?_
                    refine lv_iload_n hx hb dX7_tells_101 rfl (lv_at hl 3 rfl) ?_
                    refine lv_icmp_lt (tgt := 109) hx hb dX7_tells_102 (by decide) (fun cc102 => ?_) (fun cc102 => ?_)
                    · have hf := if_t cc102 hf
                      exact J109  _ _ _ hP hD hS (lv_sub hl [1, 2, 3, 4, 0, 6] rfl) hf
                    · have hf := if_f cc102 hf
                      refine lv_iconst (v := (1 : Int32)) hx hb dX7_tells_105 (by decide) ?_
                      refine lv_goto (tgt := 110) hx hb dX7_tells_106 (by decide) ?_
                      exact J110 (1 : Int32) _ _ _ hP hD hS (lv_sub hl [1, 2, 3, 4, 0, 6] rfl) hf
                refine lv_if_eq (tgt := 83) hx hb dX7_tells_76 (by decide) (fun cc76 => ?_) (fun cc76 => ?_)
                · have hf := if_t cc76 hf
                  refine lv_iconst (v := (0 : Int32)) hx hb dX7_tells_83 (by decide) ?_
                  exact J84 (0 : Int32) _ _ _ hP hD hS (lv_sub hl [1, 2, 3, 4, 6, 7, 0] rfl) hf
                · have hf := if_f cc76 hf
                  refine lv_iconst (v := (1 : Int32)) hx hb dX7_tells_79 (by decide) ?_
                  refine lv_goto (tgt := 84) hx hb dX7_tells_80 (by decide) ?_
                  exact J84 (1 : Int32) _ _ _ hP hD hS (lv_sub hl [1, 2, 3, 4, 6, 7, 0] rfl) hf
              refine lv_icmp_ne (tgt := 69) hx hb dX7_tells_62 (by decide) (fun cc62 => ?_) (fun cc62 => ?_)
              · have hf := if_f cc62 hf
                refine lv_iconst (v := (0 : Int32)) hx hb dX7_tells_69 (by decide) ?_
                exact J70 (0 : Int32) _ _ _ hP hD hS (lv_sub hl [0, 1, 2, 3, 4, 5, 6] rfl) hf
              · have hf := if_t cc62 hf
                refine lv_iconst (v := (1 : Int32)) hx hb dX7_tells_65 (by decide) ?_
                refine lv_goto (tgt := 70) hx hb dX7_tells_66 (by decide) ?_
                exact J70 (1 : Int32) _ _ _ hP hD hS (lv_sub hl [0, 1, 2, 3, 4, 5, 6] rfl) hf
        exact L46 FU (0 : Int32) (0 : Int32) (0 : Int32) _ _ _ hP hD hS (lv_sub hl [3, 4, 5, 6, 2, 1, 0] rfl) hf
      · have hf := if_t cc31 hf
        refine lv_ldc hx hb hown (hG _ g_605) dX7_tells_34 ?_
        exact W.iret (v := (-1000000002 : Int32)) hx hb hr (fun t ht hW => ⟨⟨(-1000000002 : Int32), (), rfl, Option.some.inj hf, by rw [ht]; exact hP, hD⟩, hS.F ht⟩) hS.2.2 dX7_tells_36
def f_X7_wordsTo_j32 (rc5 : Int32 → Int32 → Option (Int32)) (v1 : Int32) (v3 : Int32) : Option (Int32) := nm (v1 + (1 : Int32)) (fun (v4 : Int32) => rc5 v4 v3)
def f_X7_wordsTo_b5 (x : HC) (p1 : Int32) (rc5 : Int32 → Int32 → Option (Int32)) (v1 : Int32) (v2 : Int32) : Option (Int32) := (if inb p1 5 then (if v2 < (x 5 (Int32.toNatClampNeg p1)) then some v1 else (if (10 : Int32) ≤ v2 then f_X7_wordsTo_j32 rc5 v1 (v2 - (10 : Int32)) else f_X7_wordsTo_j32 rc5 v1 (0 : Int32))) else none)
def f_X7_wordsTo (x : HC) (p1 : Int32) (p2 : Int32) : Option (Int32) := lp (fun _ _ => none : Int32 → Int32 → Option (Int32)) (f_X7_wordsTo_b5 x p1) FU (0 : Int32) p2
abbrev RM_X7_wordsTo : Room := { frames := 0, cells := 0, slots := 0, locals := 0 }
set_option maxHeartbeats 4000000 in
set_option maxRecDepth 100000 in
theorem c_X7_wordsTo (l : Launch) (D : va_G) (cI cZ : ClassId) (a : Nat → Nat) (x : HC) (p1 : Int32) (p2 : Int32) (sz : Nat) {r : Int32} (hf : f_X7_wordsTo x p1 p2 = some r) : Met l yX7_wordsTo (wM yX7_wordsTo cX7_wordsTo 5 (some .int)) RM_X7_wordsTo (va_Pc [.ref (a 0), .int p1, .int p2] (pre D cI cZ (kM cI cZ a x) sz)) (QI0 D (va_A (kM cI cZ a x) sz) (kM cI cZ a x) r) 0 0 (va_A (kM cI cZ a x) sz) := by
  unfold f_X7_wordsTo at hf
  refine Met.ofW (cc := cX7_wordsTo) (maxL := 5) (ret := (some .int)) (by decide) rfl ?_
  intro p e s m args below meth c s₁ B hml hv
  obtain ⟨rfl, hsz, hP, hK, hD0, hnw⟩ := hv
  have hx := B.exec
  have hb := B.bytes
  have hr := B.returns
  have hts := atoms_spec (ws := wM yX7_wordsTo cX7_wordsTo 5 (some .int)) B.pre
  have hG : ∀ w ∈ GW, w.before (([.ref (a 0), .int p1, .int p2] : List Value).toArray) s = true := fun w h => hts w (List.mem_cons_of_mem _ h)
  have hown : s.vm.findClass RX7 = some m.cls := findClass_of_methodNamed B.named
  have hlocks := B.notSynchronized
  subst hsz
  have hD := hD0.self (sz := s.heap.size)
  generalize hAe : va_A (kM cI cZ a x) s.heap.size = A at hD ⊢
  have hA : ∀ q : Nat, s.heap.size ≤ q → A q := fun q h => by rw [← hAe]; exact Or.inr h
  have hS : va_S A s.heap s.heap [] := va_S.rf
  have hl := lv_entry ([.ref (a 0), .int p1, .int p2]) (n := 5) (Nat.le_of_ble_eq_true rfl)
  rw [lg_entry_eq]
  generalize (lg_sl ([.ref (a 0), .int p1, .int p2]) ++ List.replicate (5 - (lg_sl ([.ref (a 0), .int p1, .int p2])).length) Slot.unset).toArray = ls at hl ⊢
  have hl : lv_has ls 5 [(0, .ref (a 0)), (1, .int p1), (2, .int p2)] := hl
  show W p l e RM_X7_wordsTo s m (([.ref (a 0), .int p1, .int p2] : List Value).toArray) below meth c s.heap [] 0 0 (MQ below (QI0 D A (kM cI cZ a x) r) (([.ref (a 0), .int p1, .int p2] : List Value).toArray) s 0 0 A) (F0 m 0 ls [])
  refine lv_iconst (v := (0 : Int32)) hx hb dX7_wordsTo_0 (by decide) ?_
  refine lv_istore_n (lv' := [(3, .int (0 : Int32)), (0, .ref (a 0)), (1, .int p1), (2, .int p2)]) hx hb dX7_wordsTo_1 rfl hl (by decide) rfl (fun ls hl => ?_)
  refine lv_iload_n hx hb dX7_wordsTo_2 rfl (lv_at hl 3 rfl) ?_
  refine lv_istore (lv' := [(4, .int p2), (3, .int (0 : Int32)), (0, .ref (a 0)), (1, .int p1), (2, .int p2)]) hx hb dX7_wordsTo_3 hl (by decide) rfl (fun ls hl => ?_)
  have L5 : ∀ (n : Nat) (v1 : Int32) (v2 : Int32) (H : Heap) (locs : List Loc) (ls : Array Slot), va_P D vwCl (kM cI cZ a x) H → va_D A (kM cI cZ a x) → va_S A s.heap H locs → lv_has ls 5 [(0, .ref (a 0)), (1, .int p1), (3, .int v1), (4, .int v2)] → lp (fun _ _ => none : Int32 → Int32 → Option (Int32)) (f_X7_wordsTo_b5 x p1) n v1 v2 = some r → W p l e RM_X7_wordsTo s m (([.ref (a 0), .int p1, .int p2] : List Value).toArray) below meth c H locs 0 0 (MQ below (QI0 D A (kM cI cZ a x) r) (([.ref (a 0), .int p1, .int p2] : List Value).toArray) s 0 0 A) (F0 m 5 ls []) := by
    intro n
    induction n with
    | zero => intro v1 v2 H locs ls _ _ _ _ hf; cases (show (none : Option (Int32)) = some r from hf)
    | succ n ih5 =>
      intro v1 v2 H locs ls hP hD hS hl hf
      have hf : (f_X7_wordsTo_b5 x p1) (lp (fun _ _ => none : Int32 → Int32 → Option (Int32)) (f_X7_wordsTo_b5 x p1) n) v1 v2 = some r := hf
      generalize lp (fun _ _ => none : Int32 → Int32 → Option (Int32)) (f_X7_wordsTo_b5 x p1) n = rc5 at ih5 hf
      unfold f_X7_wordsTo_b5 at hf
      refine lv_iload hx hb dX7_wordsTo_5 (lv_at hl 3 rfl) ?_
      refine lv_aload_n hx hb dX7_wordsTo_7 rfl (lv_at hl 0 rfl) ?_
      refine va_get (D := D) (ci := 7) (v := .ref (a 5)) (C := RX7) (T := TX7) (N := 32) hx hb hG inG7 hown hK hP 0 at_M_0_0 rfl 8 (by decide) (hG _ g_572) (fun _ h9 => h9) rfl dX7_wordsTo_8 ?_
      refine lv_iload_n hx hb dX7_wordsTo_11 rfl (lv_at hl 1 rfl) ?_
      obtain ⟨hb12, hf⟩ := gd hf
      refine va_iald (cA := cI) (n := 5) (f := x 5) hx hb hK hP 5 0 at_M_0_5 rfl (inb_in hb12) dX7_wordsTo_12 ?_
      refine lv_icmp_lt (tgt := 40) hx hb dX7_wordsTo_13 (by decide) (fun cc13 => ?_) (fun cc13 => ?_)
      · have hf := if_t cc13 hf
        refine lv_iload_n hx hb dX7_wordsTo_40 rfl (lv_at hl 2 rfl) ?_
        exact W.iret (v := v1) hx hb hr (fun t ht hW => ⟨⟨v1, (), rfl, Option.some.inj hf, by rw [ht]; exact hP, hD⟩, hS.F ht⟩) hS.2.2 dX7_wordsTo_41
      · have hf := if_f cc13 hf
        refine lv_iload hx hb dX7_wordsTo_16 (lv_at hl 3 rfl) ?_
        refine lv_bipush (v := (10 : Int32)) hx hb dX7_wordsTo_18 (by decide) ?_
        have J32 : ∀ (v3 : Int32) (H : Heap) (locs : List Loc) (ls : Array Slot), va_P D vwCl (kM cI cZ a x) H → va_D A (kM cI cZ a x) → va_S A s.heap H locs → lv_has ls 5 [(0, .ref (a 0)), (1, .int p1), (3, .int v1)] → f_X7_wordsTo_j32 rc5 v1 v3 = some r → W p l e RM_X7_wordsTo s m (([.ref (a 0), .int p1, .int p2] : List Value).toArray) below meth c H locs 0 0 (MQ below (QI0 D A (kM cI cZ a x) r) (([.ref (a 0), .int p1, .int p2] : List Value).toArray) s 0 0 A) (F0 m 32 ls [.int v3]) := by
          intro v3 H locs ls hP hD hS hl hf
          unfold f_X7_wordsTo_j32 at hf
          refine lv_istore (lv' := [(4, .int v3), (0, .ref (a 0)), (1, .int p1), (3, .int v1)]) hx hb dX7_wordsTo_32 hl (by decide) rfl (fun ls hl => ?_)
          obtain ⟨v4, ev4⟩ : ∃ y : Int32, y = (v1 + (1 : Int32)) := ⟨_, rfl⟩
          have hf := nm_x ev4 hf
          refine lv_iinc (v := v4) (lv' := [(3, .int v4), (4, .int v3), (0, .ref (a 0)), (1, .int p1)]) hx hb dX7_wordsTo_34 hl (k := 3) rfl (by rw [ev4]; rfl) (by decide) rfl (fun ls hl => ?_)
          refine lv_goto (tgt := 5) hx hb dX7_wordsTo_37 (by decide) ?_
          exact ih5 v4 v3 _ _ _ hP hD hS (lv_sub hl [2, 3, 0, 1] rfl) hf
        refine lv_icmp_ge (tgt := 27) hx hb dX7_wordsTo_20 (by decide) (fun cc20 => ?_) (fun cc20 => ?_)
        · have hf := if_t cc20 hf
          refine lv_iload hx hb dX7_wordsTo_27 (lv_at hl 3 rfl) ?_
          refine lv_bipush (v := (10 : Int32)) hx hb dX7_wordsTo_29 (by decide) ?_
          refine lv_isub hx hb dX7_wordsTo_31 ?_
          exact J32 (v2 - (10 : Int32)) _ _ _ hP hD hS (lv_sub hl [0, 1, 2] rfl) hf
        · have hf := if_f cc20 hf
          refine lv_iconst (v := (0 : Int32)) hx hb dX7_wordsTo_23 (by decide) ?_
          refine lv_goto (tgt := 32) hx hb dX7_wordsTo_24 (by decide) ?_
          exact J32 (0 : Int32) _ _ _ hP hD hS (lv_sub hl [0, 1, 2] rfl) hf
  exact L5 FU (0 : Int32) p2 _ _ _ hP hD hS (lv_sub hl [2, 3, 1, 0] rfl) hf
def f_X7_words_j42   : Option (Int32) := some (-1 : Int32)
def f_X7_words (x : HC) (p1 : Int32) (p2 : Int32) : Option (Int32) := bd (f_X7_isFighter x p1) (fun (q1 : Int32) => (if q1 = 0 then some (-1000000001 : Int32) else bd (f_X7_isFighter x p2) (fun (q2 : Int32) => (if q2 = 0 then some (-1000000001 : Int32) else (if p1 = p2 then some (-1000000001 : Int32) else (if inb p1 5 then (if (x 5 (Int32.toNatClampNeg p1)) = 0 then f_X7_words_j42 else (if inb p2 5 then (if (x 5 (Int32.toNatClampNeg p2)) = 0 then f_X7_words_j42 else bd (f_X7_readsNow x p2) (fun (q3 : Int32) => bd (f_X7_wordsTo x p1 q3) (fun (q4 : Int32) => bd (f_X7_readsNow x p1) (fun (q5 : Int32) => bd (f_X7_wordsTo x p2 q5) (fun (q6 : Int32) => some (q4 + q6)))))) else none)) else none))))))
abbrev RM_X7_words : Room := { frames := 2, cells := 0, slots := 0, locals := 46 }
set_option maxHeartbeats 4000000 in
set_option maxRecDepth 100000 in
theorem c_X7_words (l : Launch) (D : va_G) (cI cZ : ClassId) (a : Nat → Nat) (x : HC) (p1 : Int32) (p2 : Int32) (sz : Nat) {r : Int32} (hf : f_X7_words x p1 p2 = some r) : Met l yX7_words (wM yX7_words cX7_words 3 (some .int)) RM_X7_words (va_Pc [.ref (a 0), .int p1, .int p2] (pre D cI cZ (kM cI cZ a x) sz)) (QI0 D (va_A (kM cI cZ a x) sz) (kM cI cZ a x) r) 0 0 (va_A (kM cI cZ a x) sz) := by
  unfold f_X7_words at hf
  refine Met.ofW (cc := cX7_words) (maxL := 3) (ret := (some .int)) (by decide) rfl ?_
  intro p e s m args below meth c s₁ B hml hv
  obtain ⟨rfl, hsz, hP, hK, hD0, hnw⟩ := hv
  have hx := B.exec
  have hb := B.bytes
  have hr := B.returns
  have hts := atoms_spec (ws := wM yX7_words cX7_words 3 (some .int)) B.pre
  have hG : ∀ w ∈ GW, w.before (([.ref (a 0), .int p1, .int p2] : List Value).toArray) s = true := fun w h => hts w (List.mem_cons_of_mem _ h)
  have hown : s.vm.findClass RX7 = some m.cls := findClass_of_methodNamed B.named
  have hlocks := B.notSynchronized
  subst hsz
  have hD := hD0.self (sz := s.heap.size)
  generalize hAe : va_A (kM cI cZ a x) s.heap.size = A at hD ⊢
  have hA : ∀ q : Nat, s.heap.size ≤ q → A q := fun q h => by rw [← hAe]; exact Or.inr h
  have hS : va_S A s.heap s.heap [] := va_S.rf
  have hl := lv_entry ([.ref (a 0), .int p1, .int p2]) (n := 3) (Nat.le_of_ble_eq_true rfl)
  rw [lg_entry_eq]
  generalize (lg_sl ([.ref (a 0), .int p1, .int p2]) ++ List.replicate (3 - (lg_sl ([.ref (a 0), .int p1, .int p2])).length) Slot.unset).toArray = ls at hl ⊢
  have hl : lv_has ls 3 [(0, .ref (a 0)), (1, .int p1), (2, .int p2)] := hl
  show W p l e RM_X7_words s m (([.ref (a 0), .int p1, .int p2] : List Value).toArray) below meth c s.heap [] 0 0 (MQ below (QI0 D A (kM cI cZ a x) r) (([.ref (a 0), .int p1, .int p2] : List Value).toArray) s 0 0 A) (F0 m 0 ls [])
  refine lv_aload_n hx hb dX7_words_0 rfl (lv_at hl 0 rfl) ?_
  refine lv_iload_n hx hb dX7_words_1 rfl (lv_at hl 1 rfl) ?_
  obtain ⟨q1, hq1, hf⟩ := bd_x hf
  have hFc := freeS hD hS hA
  refine va_calli (va_runV (As := [.int p1]) (rest := []) ⟨hx, hb, hml, hown, hG⟩ (c_X7_isFighter l D cI cZ a x p1 s.heap.size hq1) (cwV 1 hG (gV g_673 g_674 g_47 g_77 g_675) rfl rfl rfl (by decide +kernel) ⟨Nat.le_of_ble_eq_true rfl, Nat.le_of_ble_eq_true rfl⟩) ⟨pre_blind, va_recv hK hP (ci := 7) (q0 := 0) rfl rfl, fun U hU hW => ⟨rfl, pre_of hP hK hD hnw hU hW⟩⟩ rfl rfl hl.1 rfl (lv_room (Nat.le_of_ble_eq_true rfl)) dX7_words_2 ⟨Nat.le_of_ble_eq_true rfl, Nat.le_of_ble_eq_true rfl⟩) hS (fun q _ h => hFc q h) hFc (fun v u t H locs ht hvm hw hB hz1 hk1 hS => ?_)
  have hw := hw.symm; subst hw
  obtain ⟨hP1, hD1⟩ := hB
  rw [ht] at hP1
  have hP := hP1
  have hD := hD1.weaken (fun _ q _ h => hFc q.1 h)
  refine lv_if_eq (tgt := 21) hx hb dX7_words_5 (by decide) (fun cc5 => ?_) (fun cc5 => ?_)
  · have hf := if_t cc5 hf
    refine lv_ldc hx hb hown (hG _ g_676) dX7_words_21 ?_
    exact W.iret (v := (-1000000001 : Int32)) hx hb hr (fun t ht hW => ⟨⟨(-1000000001 : Int32), (), rfl, Option.some.inj hf, by rw [ht]; exact hP, hD⟩, hS.F ht⟩) hS.2.2 dX7_words_23
  · have hf := if_f cc5 hf
    refine lv_aload_n hx hb dX7_words_8 rfl (lv_at hl 0 rfl) ?_
    refine lv_iload_n hx hb dX7_words_9 rfl (lv_at hl 2 rfl) ?_
    obtain ⟨q2, hq2, hf⟩ := bd_x hf
    have hFc := freeS hD hS hA
    refine va_calli (va_runV (As := [.int p2]) (rest := []) ⟨hx, hb, hml, hown, hG⟩ (c_X7_isFighter l D cI cZ a x p2 H.size hq2) (cwV 1 hG (gV g_673 g_674 g_47 g_77 g_675) rfl rfl rfl (by decide +kernel) ⟨Nat.le_of_ble_eq_true rfl, Nat.le_of_ble_eq_true rfl⟩) ⟨pre_blind, va_recv hK hP (ci := 7) (q0 := 0) rfl rfl, fun U hU hW => ⟨rfl, pre_of hP hK hD hnw hU hW⟩⟩ rfl rfl hl.1 rfl (lv_room (Nat.le_of_ble_eq_true rfl)) dX7_words_10 ⟨Nat.le_of_ble_eq_true rfl, Nat.le_of_ble_eq_true rfl⟩) hS (fun q _ h => hFc q h) hFc (fun v u t H locs ht hvm hw hB hz1 hk1 hS => ?_)
    have hw := hw.symm; subst hw
    obtain ⟨hP1, hD1⟩ := hB
    rw [ht] at hP1
    have hP := hP1
    have hD := hD1.weaken (fun _ q _ h => hFc q.1 h)
    refine lv_if_eq (tgt := 21) hx hb dX7_words_13 (by decide) (fun cc13 => ?_) (fun cc13 => ?_)
    · have hf := if_t cc13 hf
      refine lv_ldc hx hb hown (hG _ g_676) dX7_words_21 ?_
      exact W.iret (v := (-1000000001 : Int32)) hx hb hr (fun t ht hW => ⟨⟨(-1000000001 : Int32), (), rfl, Option.some.inj hf, by rw [ht]; exact hP, hD⟩, hS.F ht⟩) hS.2.2 dX7_words_23
    · have hf := if_f cc13 hf
      refine lv_iload_n hx hb dX7_words_16 rfl (lv_at hl 1 rfl) ?_
      refine lv_iload_n hx hb dX7_words_17 rfl (lv_at hl 2 rfl) ?_
      refine lv_icmp_ne (tgt := 24) hx hb dX7_words_18 (by decide) (fun cc18 => ?_) (fun cc18 => ?_)
      · have hf := if_f cc18 hf
        refine lv_aload_n hx hb dX7_words_24 rfl (lv_at hl 0 rfl) ?_
        refine va_get (D := D) (ci := 7) (v := .ref (a 5)) (C := RX7) (T := TX7) (N := 32) hx hb hG inG7 hown hK hP 0 at_M_0_0 rfl 8 (by decide) (hG _ g_572) (fun _ h9 => h9) rfl dX7_words_25 ?_
        refine lv_iload_n hx hb dX7_words_28 rfl (lv_at hl 1 rfl) ?_
        obtain ⟨hb29, hf⟩ := gd hf
        refine va_iald (cA := cI) (n := 5) (f := x 5) hx hb hK hP 5 0 at_M_0_5 rfl (inb_in hb29) dX7_words_29 ?_
        have J42 : ∀  (H : Heap) (locs : List Loc) (ls : Array Slot), va_P D vwCl (kM cI cZ a x) H → va_D A (kM cI cZ a x) → va_S A s.heap H locs → lv_has ls 3 [] → f_X7_words_j42  = some r → W p l e RM_X7_words s m (([.ref (a 0), .int p1, .int p2] : List Value).toArray) below meth c H locs 0 0 (MQ below (QI0 D A (kM cI cZ a x) r) (([.ref (a 0), .int p1, .int p2] : List Value).toArray) s 0 0 A) (F0 m 42 ls []) := by
          intro  H locs ls hP hD hS hl hf
          unfold f_X7_words_j42 at hf
          refine lv_iconst (v := (-1 : Int32)) hx hb dX7_words_42 (by decide) ?_
          refine lv_goto (tgt := 67) hx hb dX7_words_43 (by decide) ?_
          exact W.iret (v := (-1 : Int32)) hx hb hr (fun t ht hW => ⟨⟨(-1 : Int32), (), rfl, Option.some.inj hf, by rw [ht]; exact hP, hD⟩, hS.F ht⟩) hS.2.2 dX7_words_67
        refine lv_if_eq (tgt := 42) hx hb dX7_words_30 (by decide) (fun cc30 => ?_) (fun cc30 => ?_)
        · have hf := if_t cc30 hf
          exact J42  _ _ _ hP hD hS (lv_sub hl [] rfl) hf
        · have hf := if_f cc30 hf
          refine lv_aload_n hx hb dX7_words_33 rfl (lv_at hl 0 rfl) ?_
          refine va_get (D := D) (ci := 7) (v := .ref (a 5)) (C := RX7) (T := TX7) (N := 32) hx hb hG inG7 hown hK hP 0 at_M_0_0 rfl 8 (by decide) (hG _ g_572) (fun _ h9 => h9) rfl dX7_words_34 ?_
          refine lv_iload_n hx hb dX7_words_37 rfl (lv_at hl 2 rfl) ?_
          obtain ⟨hb38, hf⟩ := gd hf
          refine va_iald (cA := cI) (n := 5) (f := x 5) hx hb hK hP 5 0 at_M_0_5 rfl (inb_in hb38) dX7_words_38 ?_
          refine lv_if_ne (tgt := 46) hx hb dX7_words_39 (by decide) (fun cc39 => ?_) (fun cc39 => ?_)
          · have hf := if_f cc39 hf
            refine lv_aload_n hx hb dX7_words_46 rfl (lv_at hl 0 rfl) ?_
            refine lv_iload_n hx hb dX7_words_47 rfl (lv_at hl 1 rfl) ?_
            refine lv_aload_n hx hb dX7_words_48 rfl (lv_at hl 0 rfl) ?_
            refine lv_iload_n hx hb dX7_words_49 rfl (lv_at hl 2 rfl) ?_
            obtain ⟨q3, hq3, hf⟩ := bd_x hf
            have hFc := freeS hD hS hA
            refine va_calli (va_runV (As := [.int p2]) (rest := [.int p1, .ref (a 0)]) ⟨hx, hb, hml, hown, hG⟩ (c_X7_readsNow l D cI cZ a x p2 H.size hq3) (cwV 1 hG (gV g_677 g_678 g_48 g_77 g_679) rfl rfl rfl (by decide +kernel) ⟨Nat.le_of_ble_eq_true rfl, Nat.le_of_ble_eq_true rfl⟩) ⟨pre_blind, va_recv hK hP (ci := 7) (q0 := 0) rfl rfl, fun U hU hW => ⟨rfl, pre_of hP hK hD hnw hU hW⟩⟩ rfl rfl hl.1 rfl (lv_room (Nat.le_of_ble_eq_true rfl)) dX7_words_50 ⟨Nat.le_of_ble_eq_true rfl, Nat.le_of_ble_eq_true rfl⟩) hS (fun q _ h => hFc q h) hFc (fun v u t H locs ht hvm hw hB hz1 hk1 hS => ?_)
            have hw := hw.symm; subst hw
            obtain ⟨hP1, hD1⟩ := hB
            rw [ht] at hP1
            have hP := hP1
            have hD := hD1.weaken (fun _ q _ h => hFc q.1 h)
            obtain ⟨q4, hq4, hf⟩ := bd_x hf
            have hFc := freeS hD hS hA
            refine va_calli (va_runV (As := [.int p1, .int q3]) (rest := []) ⟨hx, hb, hml, hown, hG⟩ (c_X7_wordsTo l D cI cZ a x p1 q3 H.size hq4) (cwV 2 hG (gV g_806 g_807 g_67 g_77 g_808) rfl rfl rfl (by decide +kernel) ⟨Nat.le_of_ble_eq_true rfl, Nat.le_of_ble_eq_true rfl⟩) ⟨pre_blind, va_recv hK hP (ci := 7) (q0 := 0) rfl rfl, fun U hU hW => ⟨rfl, pre_of hP hK hD hnw hU hW⟩⟩ rfl rfl hl.1 rfl (lv_room (Nat.le_of_ble_eq_true rfl)) dX7_words_53 ⟨Nat.le_of_ble_eq_true rfl, Nat.le_of_ble_eq_true rfl⟩) hS (fun q _ h => hFc q h) hFc (fun v u t H locs ht hvm hw hB hz1 hk1 hS => ?_)
            have hw := hw.symm; subst hw
            obtain ⟨hP1, hD1⟩ := hB
            rw [ht] at hP1
            have hP := hP1
            have hD := hD1.weaken (fun _ q _ h => hFc q.1 h)
            refine lv_aload_n hx hb dX7_words_56 rfl (lv_at hl 0 rfl) ?_
            refine lv_iload_n hx hb dX7_words_57 rfl (lv_at hl 2 rfl) ?_
            refine lv_aload_n hx hb dX7_words_58 rfl (lv_at hl 0 rfl) ?_
            refine lv_iload_n hx hb dX7_words_59 rfl (lv_at hl 1 rfl) ?_
            obtain ⟨q5, hq5, hf⟩ := bd_x hf
            have hFc := freeS hD hS hA
            refine va_calli (va_runV (As := [.int p1]) (rest := [.int p2, .ref (a 0), .int q4]) ⟨hx, hb, hml, hown, hG⟩ (c_X7_readsNow l D cI cZ a x p1 H.size hq5) (cwV 1 hG (gV g_677 g_678 g_48 g_77 g_679) rfl rfl rfl (by decide +kernel) ⟨Nat.le_of_ble_eq_true rfl, Nat.le_of_ble_eq_true rfl⟩) ⟨pre_blind, va_recv hK hP (ci := 7) (q0 := 0) rfl rfl, fun U hU hW => ⟨rfl, pre_of hP hK hD hnw hU hW⟩⟩ rfl rfl hl.1 rfl (lv_room (Nat.le_of_ble_eq_true rfl)) dX7_words_60 ⟨Nat.le_of_ble_eq_true rfl, Nat.le_of_ble_eq_true rfl⟩) hS (fun q _ h => hFc q h) hFc (fun v u t H locs ht hvm hw hB hz1 hk1 hS => ?_)
            have hw := hw.symm; subst hw
            obtain ⟨hP1, hD1⟩ := hB
            rw [ht] at hP1
            have hP := hP1
            have hD := hD1.weaken (fun _ q _ h => hFc q.1 h)
            obtain ⟨q6, hq6, hf⟩ := bd_x hf
            have hFc := freeS hD hS hA
            refine va_calli (va_runV (As := [.int p2, .int q5]) (rest := [.int q4]) ⟨hx, hb, hml, hown, hG⟩ (c_X7_wordsTo l D cI cZ a x p2 q5 H.size hq6) (cwV 2 hG (gV g_806 g_807 g_67 g_77 g_808) rfl rfl rfl (by decide +kernel) ⟨Nat.le_of_ble_eq_true rfl, Nat.le_of_ble_eq_true rfl⟩) ⟨pre_blind, va_recv hK hP (ci := 7) (q0 := 0) rfl rfl, fun U hU hW => ⟨rfl, pre_of hP hK hD hnw hU hW⟩⟩ rfl rfl hl.1 rfl (lv_room (Nat.le_of_ble_eq_true rfl)) dX7_words_63 ⟨Nat.le_of_ble_eq_true rfl, Nat.le_of_ble_eq_true rfl⟩) hS (fun q _ h => hFc q h) hFc (fun v u t H locs ht hvm hw hB hz1 hk1 hS => ?_)
            have hw := hw.symm; subst hw
            obtain ⟨hP1, hD1⟩ := hB
            rw [ht] at hP1
            have hP := hP1
            have hD := hD1.weaken (fun _ q _ h => hFc q.1 h)
            refine lv_iadd hx hb dX7_words_66 ?_
            exact W.iret (v := (q4 + q6)) hx hb hr (fun t ht hW => ⟨⟨(q4 + q6), (), rfl, Option.some.inj hf, by rw [ht]; exact hP, hD⟩, hS.F ht⟩) hS.2.2 dX7_words_67
          · have hf := if_t cc39 hf
            exact J42  _ _ _ hP hD hS (lv_sub hl [] rfl) hf
      · have hf := if_t cc18 hf
        refine lv_ldc hx hb hown (hG _ g_676) dX7_words_21 ?_
        exact W.iret (v := (-1000000001 : Int32)) hx hb hr (fun t ht hW => ⟨⟨(-1000000001 : Int32), (), rfl, Option.some.inj hf, by rw [ht]; exact hP, hD⟩, hS.F ht⟩) hS.2.2 dX7_words_23
def f_X7_hire_j166 (rc35 : Int32 → Int32 → Int32 → Int32 → Option (Int32)) (v3 : Int32) (v6 : Int32) (v7 : Int32) (v8 : Int32) (v11 : Int32) : Option (Int32) := nm (v3 ||| v11) (fun (v12 : Int32) => nm (v6 + (1 : Int32)) (fun (v13 : Int32) => rc35 v12 v7 v8 v13))
def f_X7_hire_j143 (rc53 : Int32 → Int32 → Int32 → Int32 → Option (Int32)) (v10 : Int32) (v16 : Int32) (v17 : Int32) (v18 : Int32) : Option (Int32) := nm (v10 + (1 : Int32)) (fun (v19 : Int32) => rc53 v17 v16 v18 v19)
def f_X7_hire_j127 (rc53 : Int32 → Int32 → Int32 → Int32 → Option (Int32)) (v9 : Int32) (v10 : Int32) (v15 : Int32) (v16 : Int32) (v17 : Int32) : Option (Int32) := (if v15 ≤ v9 then f_X7_hire_j143 rc53 v10 v16 v17 v9 else f_X7_hire_j143 rc53 v10 v16 v17 v15)
def f_X7_hire_j111 (rc53 : Int32 → Int32 → Int32 → Int32 → Option (Int32)) (v7 : Int32) (v9 : Int32) (v10 : Int32) (v15 : Int32) (v16 : Int32) : Option (Int32) := (if v15 ≤ v9 then f_X7_hire_j127 rc53 v9 v10 v15 v16 v7 else f_X7_hire_j127 rc53 v9 v10 v15 v16 v10)
def f_X7_hire_j83 (rc53 : Int32 → Int32 → Int32 → Int32 → Option (Int32)) (v7 : Int32) (v8 : Int32) (v9 : Int32) (v10 : Int32) (v15 : Int32) : Option (Int32) := (if v15 ≤ v9 then (if v15 ≤ v8 then f_X7_hire_j111 rc53 v7 v9 v10 v15 v8 else f_X7_hire_j111 rc53 v7 v9 v10 v15 v15) else f_X7_hire_j111 rc53 v7 v9 v10 v15 v9)
def f_X7_hire_b53 (x : HC) (rc35 : Int32 → Int32 → Int32 → Int32 → Option (Int32)) (v3 : Int32) (v6 : Int32) (rc53 : Int32 → Int32 → Int32 → Int32 → Option (Int32)) (v7 : Int32) (v8 : Int32) (v9 : Int32) (v10 : Int32) : Option (Int32) := (if (x 0 5) ≤ v10 then (if v7 = (-1 : Int32) then f_X7_hire_j166 rc35 v3 v6 v7 v8 (0 : Int32) else f_X7_hire_j166 rc35 v3 v6 v7 v8 ((1 : Int32) <<< (v7 &&& 31))) else bd (f_X7_has v3 v10) (fun (q14 : Int32) => (if q14 = 0 then bd (f_X7_thought x v10 v6) (fun (q20 : Int32) => f_X7_hire_j83 rc53 v7 v8 v9 v10 q20) else f_X7_hire_j83 rc53 v7 v8 v9 v10 (0 : Int32))))
def f_X7_hire_b35 (x : HC) (p1 : Int32) (p2 : Int32) (rc35 : Int32 → Int32 → Int32 → Int32 → Option (Int32)) (v3 : Int32) (v4 : Int32) (v5 : Int32) (v6 : Int32) : Option (Int32) := (if p1 < v6 then (if v4 = (-1 : Int32) then some (-1 : Int32) else (if p2 = 0 then some v4 else some v5)) else lp (fun _ _ _ _ => none : Int32 → Int32 → Int32 → Int32 → Option (Int32)) (f_X7_hire_b53 x rc35 v3 v6) FU (-1 : Int32) (0 : Int32) (0 : Int32) (0 : Int32))
def f_X7_hire (x : HC) (p1 : Int32) (p2 : Int32) : Option (Int32) := bd (f_X7_isFighter x p1) (fun (q1 : Int32) => (if q1 = 0 then some (-1000000001 : Int32) else bd (f_X7_in (Int32.toInt64 p2) (0 : Int64) (1 : Int64)) (fun (q2 : Int32) => (if q2 = 0 then some (-1000000002 : Int32) else lp (fun _ _ _ _ => none : Int32 → Int32 → Int32 → Int32 → Option (Int32)) (f_X7_hire_b35 x p1 p2) FU (0 : Int32) (-1 : Int32) (0 : Int32) (0 : Int32)))))
abbrev RM_X7_hire : Room := { frames := 2, cells := 0, slots := 0, locals := 46 }
set_option maxHeartbeats 4000000 in
set_option maxRecDepth 100000 in
theorem c_X7_hire (l : Launch) (D : va_G) (cI cZ : ClassId) (a : Nat → Nat) (x : HC) (p1 : Int32) (p2 : Int32) (sz : Nat) {r : Int32} (hf : f_X7_hire x p1 p2 = some r) : Met l yX7_hire (wM yX7_hire cX7_hire 10 (some .int)) RM_X7_hire (va_Pc [.ref (a 0), .int p1, .int p2] (pre D cI cZ (kM cI cZ a x) sz)) (QI0 D (va_A (kM cI cZ a x) sz) (kM cI cZ a x) r) 0 0 (va_A (kM cI cZ a x) sz) := by
  unfold f_X7_hire at hf
  refine Met.ofW (cc := cX7_hire) (maxL := 10) (ret := (some .int)) (by decide) rfl ?_
  intro p e s m args below meth c s₁ B hml hv
  obtain ⟨rfl, hsz, hP, hK, hD0, hnw⟩ := hv
  have hx := B.exec
  have hb := B.bytes
  have hr := B.returns
  have hts := atoms_spec (ws := wM yX7_hire cX7_hire 10 (some .int)) B.pre
  have hG : ∀ w ∈ GW, w.before (([.ref (a 0), .int p1, .int p2] : List Value).toArray) s = true := fun w h => hts w (List.mem_cons_of_mem _ h)
  have hown : s.vm.findClass RX7 = some m.cls := findClass_of_methodNamed B.named
  have hlocks := B.notSynchronized
  subst hsz
  have hD := hD0.self (sz := s.heap.size)
  generalize hAe : va_A (kM cI cZ a x) s.heap.size = A at hD ⊢
  have hA : ∀ q : Nat, s.heap.size ≤ q → A q := fun q h => by rw [← hAe]; exact Or.inr h
  have hS : va_S A s.heap s.heap [] := va_S.rf
  have hl := lv_entry ([.ref (a 0), .int p1, .int p2]) (n := 10) (Nat.le_of_ble_eq_true rfl)
  rw [lg_entry_eq]
  generalize (lg_sl ([.ref (a 0), .int p1, .int p2]) ++ List.replicate (10 - (lg_sl ([.ref (a 0), .int p1, .int p2])).length) Slot.unset).toArray = ls at hl ⊢
  have hl : lv_has ls 10 [(0, .ref (a 0)), (1, .int p1), (2, .int p2)] := hl
  show W p l e RM_X7_hire s m (([.ref (a 0), .int p1, .int p2] : List Value).toArray) below meth c s.heap [] 0 0 (MQ below (QI0 D A (kM cI cZ a x) r) (([.ref (a 0), .int p1, .int p2] : List Value).toArray) s 0 0 A) (F0 m 0 ls [])
  refine lv_aload_n hx hb dX7_hire_0 rfl (lv_at hl 0 rfl) ?_
  refine lv_iload_n hx hb dX7_hire_1 rfl (lv_at hl 1 rfl) ?_
  obtain ⟨q1, hq1, hf⟩ := bd_x hf
  have hFc := freeS hD hS hA
  refine va_calli (va_runV (As := [.int p1]) (rest := []) ⟨hx, hb, hml, hown, hG⟩ (c_X7_isFighter l D cI cZ a x p1 s.heap.size hq1) (cwV 1 hG (gV g_673 g_674 g_47 g_77 g_675) rfl rfl rfl (by decide +kernel) ⟨Nat.le_of_ble_eq_true rfl, Nat.le_of_ble_eq_true rfl⟩) ⟨pre_blind, va_recv hK hP (ci := 7) (q0 := 0) rfl rfl, fun U hU hW => ⟨rfl, pre_of hP hK hD hnw hU hW⟩⟩ rfl rfl hl.1 rfl (lv_room (Nat.le_of_ble_eq_true rfl)) dX7_hire_2 ⟨Nat.le_of_ble_eq_true rfl, Nat.le_of_ble_eq_true rfl⟩) hS (fun q _ h => hFc q h) hFc (fun v u t H locs ht hvm hw hB hz1 hk1 hS => ?_)
  have hw := hw.symm; subst hw
  obtain ⟨hP1, hD1⟩ := hB
  rw [ht] at hP1
  have hP := hP1
  have hD := hD1.weaken (fun _ q _ h => hFc q.1 h)
  refine lv_if_ne (tgt := 11) hx hb dX7_hire_5 (by decide) (fun cc5 => ?_) (fun cc5 => ?_)
  · have hf := if_f cc5 hf
    refine lv_iload_n hx hb dX7_hire_11 rfl (lv_at hl 2 rfl) ?_
    refine lv_i2l hx hb dX7_hire_12 rfl ?_
    refine lv_lconst (v := (0 : Int64)) hx hb dX7_hire_13 (by decide) ?_
    refine lv_lconst (v := (1 : Int64)) hx hb dX7_hire_14 (by decide) ?_
    obtain ⟨q2, hq2, hf⟩ := bd_x hf
    have hFc := va_free (wc := []) hD hS hA [] rfl
    refine va_calli (va_runS (As := [.long (Int32.toInt64 p2), .long (0 : Int64), .long (1 : Int64)]) (rest := []) ⟨hx, hb, hml, hown, hG⟩ (c_X7_in l D cI cZ (Int32.toInt64 p2) (0 : Int64) (1 : Int64) H.size hq2) (cwS 3 hG (gS g_602 g_603 g_77 g_604) rfl rfl rfl (by decide +kernel) ⟨Nat.le_of_ble_eq_true rfl, Nat.le_of_ble_eq_true rfl⟩) ⟨pre_blind, fun U hU hW => ⟨rfl, pre_of P_nil hK D_nil hnw hU hW⟩⟩ rfl rfl hl.1 rfl (lv_room (Nat.le_of_ble_eq_true rfl)) dX7_hire_15 ⟨Nat.le_of_ble_eq_true rfl, Nat.le_of_ble_eq_true rfl⟩) hS (fun q _ h => hFc q h) hFc (fun v u t H locs ht hvm hw hB hz1 hk1 hS => ?_)
    have hw := hw.symm; subst hw
    obtain ⟨hP1, hD1⟩ := hB
    rw [ht] at hP1
    obtain ⟨hP, hD⟩ := back hP hD [] rfl rfl hk1 hFc hP1 hD1
    refine lv_if_ne (tgt := 24) hx hb dX7_hire_18 (by decide) (fun cc18 => ?_) (fun cc18 => ?_)
    · have hf := if_f cc18 hf
      refine lv_iconst (v := (0 : Int32)) hx hb dX7_hire_24 (by decide) ?_
      refine lv_istore_n (lv' := [(3, .int (0 : Int32)), (0, .ref (a 0)), (1, .int p1), (2, .int p2)]) hx hb dX7_hire_25 rfl hl (by decide) rfl (fun ls hl => ?_)
      refine lv_iconst (v := (-1 : Int32)) hx hb dX7_hire_26 (by decide) ?_
      refine lv_istore (lv' := [(4, .int (-1 : Int32)), (3, .int (0 : Int32)), (0, .ref (a 0)), (1, .int p1), (2, .int p2)]) hx hb dX7_hire_27 hl (by decide) rfl (fun ls hl => ?_)
      refine lv_iconst (v := (0 : Int32)) hx hb dX7_hire_29 (by decide) ?_
      refine lv_istore (lv' := [(5, .int (0 : Int32)), (4, .int (-1 : Int32)), (3, .int (0 : Int32)), (0, .ref (a 0)), (1, .int p1), (2, .int p2)]) hx hb dX7_hire_30 hl (by decide) rfl (fun ls hl => ?_)
      refine lv_iconst (v := (0 : Int32)) hx hb dX7_hire_32 (by decide) ?_
      refine lv_istore (lv' := [(6, .int (0 : Int32)), (5, .int (0 : Int32)), (4, .int (-1 : Int32)), (3, .int (0 : Int32)), (0, .ref (a 0)), (1, .int p1), (2, .int p2)]) hx hb dX7_hire_33 hl (by decide) rfl (fun ls hl => ?_)
      have L35 : ∀ (n : Nat) (v3 : Int32) (v4 : Int32) (v5 : Int32) (v6 : Int32) (H : Heap) (locs : List Loc) (ls : Array Slot), va_P D vwCl (kM cI cZ a x) H → va_D A (kM cI cZ a x) → va_S A s.heap H locs → lv_has ls 10 [(0, .ref (a 0)), (1, .int p1), (2, .int p2), (3, .int v3), (4, .int v4), (5, .int v5), (6, .int v6)] → lp (fun _ _ _ _ => none : Int32 → Int32 → Int32 → Int32 → Option (Int32)) (f_X7_hire_b35 x p1 p2) n v3 v4 v5 v6 = some r → W p l e RM_X7_hire s m (([.ref (a 0), .int p1, .int p2] : List Value).toArray) below meth c H locs 0 0 (MQ below (QI0 D A (kM cI cZ a x) r) (([.ref (a 0), .int p1, .int p2] : List Value).toArray) s 0 0 A) (F0 m 35 ls []) := by
        intro n
        induction n with
        | zero => intro v3 v4 v5 v6 H locs ls _ _ _ _ hf; cases (show (none : Option (Int32)) = some r from hf)
        | succ n ih35 =>
          intro v3 v4 v5 v6 H locs ls hP hD hS hl hf
          have hf : (f_X7_hire_b35 x p1 p2) (lp (fun _ _ _ _ => none : Int32 → Int32 → Int32 → Int32 → Option (Int32)) (f_X7_hire_b35 x p1 p2) n) v3 v4 v5 v6 = some r := hf
          generalize lp (fun _ _ _ _ => none : Int32 → Int32 → Int32 → Int32 → Option (Int32)) (f_X7_hire_b35 x p1 p2) n = rc35 at ih35 hf
          unfold f_X7_hire_b35 at hf
          refine lv_iload hx hb dX7_hire_35 (lv_at hl 6 rfl) ?_
          refine lv_iload_n hx hb dX7_hire_37 rfl (lv_at hl 1 rfl) ?_
          refine lv_icmp_gt (tgt := 174) hx hb dX7_hire_38 (by decide) (fun cc38 => ?_) (fun cc38 => ?_)
          · have hf := if_t cc38 hf
            refine lv_iload hx hb dX7_hire_174 (lv_at hl 4 rfl) ?_
            refine lv_iconst (v := (-1 : Int32)) hx hb dX7_hire_176 (by decide) ?_
            refine lv_icmp_ne (tgt := 184) hx hb dX7_hire_177 (by decide) (fun cc177 => ?_) (fun cc177 => ?_)
            · have hf := if_f cc177 hf
              refine lv_iload_n hx hb dX7_hire_184 rfl (lv_at hl 2 rfl) ?_
              refine lv_if_ne (tgt := 193) hx hb dX7_hire_185 (by decide) (fun cc185 => ?_) (fun cc185 => ?_)
              · have hf := if_f cc185 hf
                refine lv_iload hx hb dX7_hire_193 (lv_at hl 5 rfl) ?_
                exact W.iret (v := v5) hx hb hr (fun t ht hW => ⟨⟨v5, (), rfl, Option.some.inj hf, by rw [ht]; exact hP, hD⟩, hS.F ht⟩) hS.2.2 dX7_hire_195
              · have hf := if_t cc185 hf
                refine lv_iload hx hb dX7_hire_188 (lv_at hl 4 rfl) ?_
                refine lv_goto (tgt := 195) hx hb dX7_hire_190 (by decide) ?_
                exact W.iret (v := v4) hx hb hr (fun t ht hW => ⟨⟨v4, (), rfl, Option.some.inj hf, by rw [ht]; exact hP, hD⟩, hS.F ht⟩) hS.2.2 dX7_hire_195
            · have hf := if_t cc177 hf
              refine lv_iconst (v := (-1 : Int32)) hx hb dX7_hire_180 (by decide) ?_
              refine lv_goto (tgt := 195) hx hb dX7_hire_181 (by decide) ?_
              exact W.iret (v := (-1 : Int32)) hx hb hr (fun t ht hW => ⟨⟨(-1 : Int32), (), rfl, Option.some.inj hf, by rw [ht]; exact hP, hD⟩, hS.F ht⟩) hS.2.2 dX7_hire_195
          · have hf := if_f cc38 hf
            refine lv_iconst (v := (-1 : Int32)) hx hb dX7_hire_41 (by decide) ?_
            refine lv_istore (lv' := [(4, .int (-1 : Int32)), (0, .ref (a 0)), (1, .int p1), (2, .int p2), (3, .int v3), (5, .int v5), (6, .int v6)]) hx hb dX7_hire_42 hl (by decide) rfl (fun ls hl => ?_)
            refine lv_iconst (v := (0 : Int32)) hx hb dX7_hire_44 (by decide) ?_
            refine lv_istore (lv' := [(7, .int (0 : Int32)), (4, .int (-1 : Int32)), (0, .ref (a 0)), (1, .int p1), (2, .int p2), (3, .int v3), (5, .int v5), (6, .int v6)]) hx hb dX7_hire_45 hl (by decide) rfl (fun ls hl => ?_)
            refine lv_iconst (v := (0 : Int32)) hx hb dX7_hire_47 (by decide) ?_
            refine lv_istore (lv' := [(5, .int (0 : Int32)), (7, .int (0 : Int32)), (4, .int (-1 : Int32)), (0, .ref (a 0)), (1, .int p1), (2, .int p2), (3, .int v3), (6, .int v6)]) hx hb dX7_hire_48 hl (by decide) rfl (fun ls hl => ?_)
            refine lv_iconst (v := (0 : Int32)) hx hb dX7_hire_50 (by decide) ?_
            refine lv_istore (lv' := [(8, .int (0 : Int32)), (5, .int (0 : Int32)), (7, .int (0 : Int32)), (4, .int (-1 : Int32)), (0, .ref (a 0)), (1, .int p1), (2, .int p2), (3, .int v3), (6, .int v6)]) hx hb dX7_hire_51 hl (by decide) rfl (fun ls hl => ?_)
            have L53 : ∀ (n : Nat) (v7 : Int32) (v8 : Int32) (v9 : Int32) (v10 : Int32) (H : Heap) (locs : List Loc) (ls : Array Slot), va_P D vwCl (kM cI cZ a x) H → va_D A (kM cI cZ a x) → va_S A s.heap H locs → lv_has ls 10 [(0, .ref (a 0)), (1, .int p1), (2, .int p2), (3, .int v3), (4, .int v7), (5, .int v8), (6, .int v6), (7, .int v9), (8, .int v10)] → lp (fun _ _ _ _ => none : Int32 → Int32 → Int32 → Int32 → Option (Int32)) (f_X7_hire_b53 x rc35 v3 v6) n v7 v8 v9 v10 = some r → W p l e RM_X7_hire s m (([.ref (a 0), .int p1, .int p2] : List Value).toArray) below meth c H locs 0 0 (MQ below (QI0 D A (kM cI cZ a x) r) (([.ref (a 0), .int p1, .int p2] : List Value).toArray) s 0 0 A) (F0 m 53 ls []) := by
              intro n
              induction n with
              | zero => intro v7 v8 v9 v10 H locs ls _ _ _ _ hf; cases (show (none : Option (Int32)) = some r from hf)
              | succ n ih53 =>
                intro v7 v8 v9 v10 H locs ls hP hD hS hl hf
                have hf : (f_X7_hire_b53 x rc35 v3 v6) (lp (fun _ _ _ _ => none : Int32 → Int32 → Int32 → Int32 → Option (Int32)) (f_X7_hire_b53 x rc35 v3 v6) n) v7 v8 v9 v10 = some r := hf
                generalize lp (fun _ _ _ _ => none : Int32 → Int32 → Int32 → Int32 → Option (Int32)) (f_X7_hire_b53 x rc35 v3 v6) n = rc53 at ih53 hf
                unfold f_X7_hire_b53 at hf
                refine lv_iload hx hb dX7_hire_53 (lv_at hl 8 rfl) ?_
                refine lv_aload_n hx hb dX7_hire_55 rfl (lv_at hl 0 rfl) ?_
                refine va_get (D := D) (ci := 7) (v := .int (x 0 5)) (C := RX7) (T := TX7) (N := 32) hx hb hG inG7 hown hK hP 0 at_M_0_0 rfl 5 (by decide) (hG _ g_569) (fun _ h9 => h9) rfl dX7_hire_56 ?_
                refine lv_icmp_ge (tgt := 151) hx hb dX7_hire_59 (by decide) (fun cc59 => ?_) (fun cc59 => ?_)
                · have hf := if_t cc59 hf
                  refine lv_iload_n hx hb dX7_hire_151 rfl (lv_at hl 3 rfl) ?_
                  refine lv_iload hx hb dX7_hire_152 (lv_at hl 4 rfl) ?_
                  refine lv_iconst (v := (-1 : Int32)) hx hb dX7_hire_154 (by decide) ?_
                  have J166 : ∀ (v11 : Int32) (H : Heap) (locs : List Loc) (ls : Array Slot), va_P D vwCl (kM cI cZ a x) H → va_D A (kM cI cZ a x) → va_S A s.heap H locs → lv_has ls 10 [(0, .ref (a 0)), (1, .int p1), (2, .int p2), (4, .int v7), (5, .int v8), (6, .int v6)] → f_X7_hire_j166 rc35 v3 v6 v7 v8 v11 = some r → W p l e RM_X7_hire s m (([.ref (a 0), .int p1, .int p2] : List Value).toArray) below meth c H locs 0 0 (MQ below (QI0 D A (kM cI cZ a x) r) (([.ref (a 0), .int p1, .int p2] : List Value).toArray) s 0 0 A) (F0 m 166 ls [.int v11, .int v3]) := by
                    intro v11 H locs ls hP hD hS hl hf
                    unfold f_X7_hire_j166 at hf
                    refine lv_ior hx hb dX7_hire_166 ?_
                    refine lv_topi (fun v12 ev12 => ?_)
                    have hf := nm_x ev12 hf
                    refine lv_istore_n (lv' := [(3, .int v12), (0, .ref (a 0)), (1, .int p1), (2, .int p2), (4, .int v7), (5, .int v8), (6, .int v6)]) hx hb dX7_hire_167 rfl hl (by decide) rfl (fun ls hl => ?_)
                    obtain ⟨v13, ev13⟩ : ∃ y : Int32, y = (v6 + (1 : Int32)) := ⟨_, rfl⟩
                    have hf := nm_x ev13 hf
                    refine lv_iinc (v := v13) (lv' := [(6, .int v13), (3, .int v12), (0, .ref (a 0)), (1, .int p1), (2, .int p2), (4, .int v7), (5, .int v8)]) hx hb dX7_hire_168 hl (k := 6) rfl (by rw [ev13]; rfl) (by decide) rfl (fun ls hl => ?_)
                    refine lv_goto (tgt := 35) hx hb dX7_hire_171 (by decide) ?_
                    exact ih35 v12 v7 v8 v13 _ _ _ hP hD hS (lv_sub hl [2, 3, 4, 1, 5, 6, 0] rfl) hf
                  refine lv_icmp_ne (tgt := 162) hx hb dX7_hire_155 (by decide) (fun cc155 => ?_) (fun cc155 => ?_)
                  · have hf := if_f cc155 hf
                    refine lv_iconst (v := (1 : Int32)) hx hb dX7_hire_162 (by decide) ?_
                    refine lv_iload hx hb dX7_hire_163 (lv_at hl 4 rfl) ?_
                    refine lv_ishl hx hb dX7_hire_165 ?_
                    exact J166 ((1 : Int32) <<< (v7 &&& 31)) _ _ _ hP hD hS (lv_sub hl [0, 1, 2, 4, 5, 6] rfl) hf
                  · have hf := if_t cc155 hf
                    refine lv_iconst (v := (0 : Int32)) hx hb dX7_hire_158 (by decide) ?_
                    refine lv_goto (tgt := 166) hx hb dX7_hire_159 (by decide) ?_
                    exact J166 (0 : Int32) _ _ _ hP hD hS (lv_sub hl [0, 1, 2, 4, 5, 6] rfl) hf
                · have hf := if_f cc59 hf
                  refine lv_iload_n hx hb dX7_hire_62 rfl (lv_at hl 3 rfl) ?_
                  refine lv_iload hx hb dX7_hire_63 (lv_at hl 8 rfl) ?_
                  obtain ⟨q14, hq14, hf⟩ := bd_x hf
                  have hFc := va_free (wc := []) hD hS hA [] rfl
                  refine va_calli (va_runS (As := [.int v3, .int v10]) (rest := []) ⟨hx, hb, hml, hown, hG⟩ (c_X7_has l D cI cZ v3 v10 H.size hq14) (cwS 2 hG (gS g_643 g_644 g_77 g_645) rfl rfl rfl (by decide +kernel) ⟨Nat.le_of_ble_eq_true rfl, Nat.le_of_ble_eq_true rfl⟩) ⟨pre_blind, fun U hU hW => ⟨rfl, pre_of P_nil hK D_nil hnw hU hW⟩⟩ rfl rfl hl.1 rfl (lv_room (Nat.le_of_ble_eq_true rfl)) dX7_hire_65 ⟨Nat.le_of_ble_eq_true rfl, Nat.le_of_ble_eq_true rfl⟩) hS (fun q _ h => hFc q h) hFc (fun v u t H locs ht hvm hw hB hz1 hk1 hS => ?_)
                  have hw := hw.symm; subst hw
                  obtain ⟨hP1, hD1⟩ := hB
                  rw [ht] at hP1
                  obtain ⟨hP, hD⟩ := back hP hD [] rfl rfl hk1 hFc hP1 hD1
                  have J83 : ∀ (v15 : Int32) (H : Heap) (locs : List Loc) (ls : Array Slot), va_P D vwCl (kM cI cZ a x) H → va_D A (kM cI cZ a x) → va_S A s.heap H locs → lv_has ls 10 [(0, .ref (a 0)), (1, .int p1), (2, .int p2), (3, .int v3), (4, .int v7), (5, .int v8), (6, .int v6), (7, .int v9), (8, .int v10)] → f_X7_hire_j83 rc53 v7 v8 v9 v10 v15 = some r → W p l e RM_X7_hire s m (([.ref (a 0), .int p1, .int p2] : List Value).toArray) below meth c H locs 0 0 (MQ below (QI0 D A (kM cI cZ a x) r) (([.ref (a 0), .int p1, .int p2] : List Value).toArray) s 0 0 A) (F0 m 83 ls [.int v15]) := by
                    intro v15 H locs ls hP hD hS hl hf
                    unfold f_X7_hire_j83 at hf
                    refine lv_istore (lv' := [(9, .int v15), (0, .ref (a 0)), (1, .int p1), (2, .int p2), (3, .int v3), (4, .int v7), (5, .int v8), (6, .int v6), (7, .int v9), (8, .int v10)]) hx hb dX7_hire_83 hl (by decide) rfl (fun ls hl => ?_)
                    refine lv_iload hx hb dX7_hire_85 (lv_at hl 0 rfl) ?_
                    refine lv_iload hx hb dX7_hire_87 (lv_at hl 8 rfl) ?_
                    have J111 : ∀ (v16 : Int32) (H : Heap) (locs : List Loc) (ls : Array Slot), va_P D vwCl (kM cI cZ a x) H → va_D A (kM cI cZ a x) → va_S A s.heap H locs → lv_has ls 10 [(0, .ref (a 0)), (1, .int p1), (2, .int p2), (3, .int v3), (4, .int v7), (6, .int v6), (7, .int v9), (8, .int v10), (9, .int v15)] → f_X7_hire_j111 rc53 v7 v9 v10 v15 v16 = some r → W p l e RM_X7_hire s m (([.ref (a 0), .int p1, .int p2] : List Value).toArray) below meth c H locs 0 0 (MQ below (QI0 D A (kM cI cZ a x) r) (([.ref (a 0), .int p1, .int p2] : List Value).toArray) s 0 0 A) (F0 m 111 ls [.int v16]) := by
                      intro v16 H locs ls hP hD hS hl hf
                      unfold f_X7_hire_j111 at hf
                      refine lv_istore (lv' := [(5, .int v16), (0, .ref (a 0)), (1, .int p1), (2, .int p2), (3, .int v3), (4, .int v7), (6, .int v6), (7, .int v9), (8, .int v10), (9, .int v15)]) hx hb dX7_hire_111 hl (by decide) rfl (fun ls hl => ?_)
                      refine lv_iload hx hb dX7_hire_113 (lv_at hl 9 rfl) ?_
                      refine lv_iload hx hb dX7_hire_115 (lv_at hl 7 rfl) ?_
                      have J127 : ∀ (v17 : Int32) (H : Heap) (locs : List Loc) (ls : Array Slot), va_P D vwCl (kM cI cZ a x) H → va_D A (kM cI cZ a x) → va_S A s.heap H locs → lv_has ls 10 [(0, .ref (a 0)), (1, .int p1), (2, .int p2), (3, .int v3), (5, .int v16), (6, .int v6), (7, .int v9), (8, .int v10), (9, .int v15)] → f_X7_hire_j127 rc53 v9 v10 v15 v16 v17 = some r → W p l e RM_X7_hire s m (([.ref (a 0), .int p1, .int p2] : List Value).toArray) below meth c H locs 0 0 (MQ below (QI0 D A (kM cI cZ a x) r) (([.ref (a 0), .int p1, .int p2] : List Value).toArray) s 0 0 A) (F0 m 127 ls [.int v17]) := by
                        intro v17 H locs ls hP hD hS hl hf
                        unfold f_X7_hire_j127 at hf
                        refine lv_istore (lv' := [(4, .int v17), (0, .ref (a 0)), (1, .int p1), (2, .int p2), (3, .int v3), (5, .int v16), (6, .int v6), (7, .int v9), (8, .int v10), (9, .int v15)]) hx hb dX7_hire_127 hl (by decide) rfl (fun ls hl => ?_)
                        refine lv_iload hx hb dX7_hire_129 (lv_at hl 9 rfl) ?_
                        refine lv_iload hx hb dX7_hire_131 (lv_at hl 7 rfl) ?_
                        have J143 : ∀ (v18 : Int32) (H : Heap) (locs : List Loc) (ls : Array Slot), va_P D vwCl (kM cI cZ a x) H → va_D A (kM cI cZ a x) → va_S A s.heap H locs → lv_has ls 10 [(0, .ref (a 0)), (1, .int p1), (2, .int p2), (3, .int v3), (4, .int v17), (5, .int v16), (6, .int v6), (8, .int v10)] → f_X7_hire_j143 rc53 v10 v16 v17 v18 = some r → W p l e RM_X7_hire s m (([.ref (a 0), .int p1, .int p2] : List Value).toArray) below meth c H locs 0 0 (MQ below (QI0 D A (kM cI cZ a x) r) (([.ref (a 0), .int p1, .int p2] : List Value).toArray) s 0 0 A) (F0 m 143 ls [.int v18]) := by
                          intro v18 H locs ls hP hD hS hl hf
                          unfold f_X7_hire_j143 at hf
                          refine lv_istore (lv' := [(7, .int v18), (0, .ref (a 0)), (1, .int p1), (2, .int p2), (3, .int v3), (4, .int v17), (5, .int v16), (6, .int v6), (8, .int v10)]) hx hb dX7_hire_143 hl (by decide) rfl (fun ls hl => ?_)
                          obtain ⟨v19, ev19⟩ : ∃ y : Int32, y = (v10 + (1 : Int32)) := ⟨_, rfl⟩
                          have hf := nm_x ev19 hf
                          refine lv_iinc (v := v19) (lv' := [(8, .int v19), (7, .int v18), (0, .ref (a 0)), (1, .int p1), (2, .int p2), (3, .int v3), (4, .int v17), (5, .int v16), (6, .int v6)]) hx hb dX7_hire_145 hl (k := 8) rfl (by rw [ev19]; rfl) (by decide) rfl (fun ls hl => ?_)
                          refine lv_goto (tgt := 53) hx hb dX7_hire_148 (by decide) ?_
                          exact ih53 v17 v16 v18 v19 _ _ _ hP hD hS (lv_sub hl [2, 3, 4, 5, 6, 7, 8, 1, 0] rfl) hf
                        refine lv_icmp_le (tgt := 141) hx hb dX7_hire_133 (by decide) (fun cc133 => ?_) (fun cc133 => ?_)
                        · have hf := if_t cc133 hf
                          refine lv_iload hx hb dX7_hire_141 (lv_at hl 7 rfl) ?_
                          exact J143 v9 _ _ _ hP hD hS (lv_sub hl [1, 2, 3, 4, 0, 5, 6, 8] rfl) hf
                        · have hf := if_f cc133 hf
                          refine lv_iload hx hb dX7_hire_136 (lv_at hl 9 rfl) ?_
                          refine lv_goto (tgt := 143) hx hb dX7_hire_138 (by decide) ?_
                          exact J143 v15 _ _ _ hP hD hS (lv_sub hl [1, 2, 3, 4, 0, 5, 6, 8] rfl) hf
                      refine lv_icmp_le (tgt := 125) hx hb dX7_hire_117 (by decide) (fun cc117 => ?_) (fun cc117 => ?_)
                      · have hf := if_t cc117 hf
                        refine lv_iload hx hb dX7_hire_125 (lv_at hl 5 rfl) ?_
                        exact J127 v7 _ _ _ hP hD hS (lv_sub hl [1, 2, 3, 4, 0, 6, 7, 8, 9] rfl) hf
                      · have hf := if_f cc117 hf
                        refine lv_iload hx hb dX7_hire_120 (lv_at hl 8 rfl) ?_
                        refine lv_goto (tgt := 127) hx hb dX7_hire_122 (by decide) ?_
                        exact J127 v10 _ _ _ hP hD hS (lv_sub hl [1, 2, 3, 4, 0, 6, 7, 8, 9] rfl) hf
                    refine lv_icmp_le (tgt := 97) hx hb dX7_hire_89 (by decide) (fun cc89 => ?_) (fun cc89 => ?_)
                    · have hf := if_t cc89 hf
                      refine lv_iload hx hb dX7_hire_97 (lv_at hl 0 rfl) ?_
                      refine lv_iload hx hb dX7_hire_99 (lv_at hl 6 rfl) ?_
                      refine lv_icmp_le (tgt := 109) hx hb dX7_hire_101 (by decide) (fun cc101 => ?_) (fun cc101 => ?_)
                      · have hf := if_t cc101 hf
                        refine lv_iload hx hb dX7_hire_109 (lv_at hl 6 rfl) ?_
                        exact J111 v8 _ _ _ hP hD hS (lv_sub hl [1, 2, 3, 4, 5, 7, 8, 9, 0] rfl) hf
                      · have hf := if_f cc101 hf
                        refine lv_iload hx hb dX7_hire_104 (lv_at hl 0 rfl) ?_
                        refine lv_goto (tgt := 111) hx hb dX7_hire_106 (by decide) ?_
                        exact J111 v15 _ _ _ hP hD hS (lv_sub hl [1, 2, 3, 4, 5, 7, 8, 9, 0] rfl) hf
                    · have hf := if_f cc89 hf
                      refine lv_iload hx hb dX7_hire_92 (lv_at hl 8 rfl) ?_
                      refine lv_goto (tgt := 111) hx hb dX7_hire_94 (by decide) ?_
                      exact J111 v9 _ _ _ hP hD hS (lv_sub hl [1, 2, 3, 4, 5, 7, 8, 9, 0] rfl) hf
                  refine lv_if_eq (tgt := 75) hx hb dX7_hire_68 (by decide) (fun cc68 => ?_) (fun cc68 => ?_)
                  · have hf := if_t cc68 hf
                    refine lv_aload_n hx hb dX7_hire_75 rfl (lv_at hl 0 rfl) ?_
                    refine lv_iload hx hb dX7_hire_76 (lv_at hl 8 rfl) ?_
                    refine lv_iload hx hb dX7_hire_78 (lv_at hl 6 rfl) ?_
                    obtain ⟨q20, hq20, hf⟩ := bd_x hf
                    have hFc := freeS hD hS hA
                    refine va_calli (va_runV (As := [.int v10, .int v6]) (rest := []) ⟨hx, hb, hml, hown, hG⟩ (c_X7_thought l D cI cZ a x v10 v6 H.size hq20) (cwV 2 hG (gV g_666 g_667 g_46 g_77 g_668) rfl rfl rfl (by decide +kernel) ⟨Nat.le_of_ble_eq_true rfl, Nat.le_of_ble_eq_true rfl⟩) ⟨pre_blind, va_recv hK hP (ci := 7) (q0 := 0) rfl rfl, fun U hU hW => ⟨rfl, pre_of hP hK hD hnw hU hW⟩⟩ rfl rfl hl.1 rfl (lv_room (Nat.le_of_ble_eq_true rfl)) dX7_hire_80 ⟨Nat.le_of_ble_eq_true rfl, Nat.le_of_ble_eq_true rfl⟩) hS (fun q _ h => hFc q h) hFc (fun v u t H locs ht hvm hw hB hz1 hk1 hS => ?_)
                    have hw := hw.symm; subst hw
                    obtain ⟨hP1, hD1⟩ := hB
                    rw [ht] at hP1
                    have hP := hP1
                    have hD := hD1.weaken (fun _ q _ h => hFc q.1 h)
                    exact J83 q20 _ _ _ hP hD hS (lv_sub hl [0, 1, 2, 3, 4, 5, 6, 7, 8] rfl) hf
                  · have hf := if_f cc68 hf
                    refine lv_iconst (v := (0 : Int32)) hx hb dX7_hire_71 (by decide) ?_
                    refine lv_goto (tgt := 83) hx hb dX7_hire_72 (by decide) ?_
                    exact J83 (0 : Int32) _ _ _ hP hD hS (lv_sub hl [0, 1, 2, 3, 4, 5, 6, 7, 8] rfl) hf
            exact L53 FU (-1 : Int32) (0 : Int32) (0 : Int32) (0 : Int32) _ _ _ hP hD hS (lv_sub hl [4, 5, 6, 7, 3, 1, 8, 2, 0] rfl) hf
      exact L35 FU (0 : Int32) (-1 : Int32) (0 : Int32) (0 : Int32) _ _ _ hP hD hS (lv_sub hl [4, 5, 6, 3, 2, 1, 0] rfl) hf
    · have hf := if_t cc18 hf
      refine lv_ldc hx hb hown (hG _ g_605) dX7_hire_21 ?_
      exact W.iret (v := (-1000000002 : Int32)) hx hb hr (fun t ht hW => ⟨⟨(-1000000002 : Int32), (), rfl, Option.some.inj hf, by rw [ht]; exact hP, hD⟩, hS.F ht⟩) hS.2.2 dX7_hire_23
  · have hf := if_t cc5 hf
    refine lv_ldc hx hb hown (hG _ g_676) dX7_hire_8 ?_
    exact W.iret (v := (-1000000001 : Int32)) hx hb hr (fun t ht hW => ⟨⟨(-1000000001 : Int32), (), rfl, Option.some.inj hf, by rw [ht]; exact hP, hD⟩, hS.F ht⟩) hS.2.2 dX7_hire_10
def f_X7_saw_j145 (rc50 : Int32 → Int32 → Int32 → Option (Int32)) (v9 : Int32) (v15 : Int32) (v16 : Int32) : Option (Int32) := nm (v9 + (1 : Int32)) (fun (v17 : Int32) => rc50 v15 v16 v17)
def f_X7_saw_j140 (rc50 : Int32 → Int32 → Int32 → Option (Int32)) (v7 : Int32) (v9 : Int32) (v19 : Int32) : Option (Int32) := nm (v7 + (1 : Int32)) (fun (v20 : Int32) => f_X7_saw_j145 rc50 v9 v20 v19)
def f_X7_saw_j95 (x : HC) (p1 : Int32) (p2 : Int32) (rc50 : Int32 → Int32 → Int32 → Option (Int32)) (v7 : Int32) (v8 : Int32) (v9 : Int32) (v14 : Int32) : Option (Int32) := (if inb ((35 : Int32) + p2) 141 then (if (v9 &&& ((x 1 (Int32.toNatClampNeg ((35 : Int32) + p2))) ^^^ (-1 : Int32))) = 0 then bd (f_X7_thought x p1 p2) (fun (q18 : Int32) => (if v14 = q18 then (if v7 = 0 then f_X7_saw_j140 rc50 v7 v9 v9 else f_X7_saw_j140 rc50 v7 v9 (v8 &&& v9)) else f_X7_saw_j145 rc50 v9 v7 v8)) else f_X7_saw_j145 rc50 v9 v7 v8) else none)
def f_X7_saw_j72 (x : HC) (p1 : Int32) (p2 : Int32) (rc50 : Int32 → Int32 → Int32 → Option (Int32)) (v7 : Int32) (v8 : Int32) (v9 : Int32) (v11 : Int32) : Option (Int32) := bd (f_X7_fameOf x v9) (fun (q12 : Int32) => nm (v11 + q12) (fun (v13 : Int32) => (if v13 ≤ (99 : Int32) then f_X7_saw_j95 x p1 p2 rc50 v7 v8 v9 v13 else f_X7_saw_j95 x p1 p2 rc50 v7 v8 v9 (99 : Int32))))
def f_X7_saw_b50 (x : HC) (p1 : Int32) (p2 : Int32) (rc41 : Int32 → Int32 → Int32 → Option (Int32)) (v6 : Int32) (rc50 : Int32 → Int32 → Int32 → Option (Int32)) (v7 : Int32) (v8 : Int32) (v9 : Int32) : Option (Int32) := (if (64 : Int32) ≤ v9 then nm (v6 + (1 : Int32)) (fun (v10 : Int32) => rc41 v7 v8 v10) else (if v6 = (1 : Int32) then bd (f_X7_readsNow x p2) (fun (q21 : Int32) => f_X7_saw_j72 x p1 p2 rc50 v7 v8 v9 q21) else f_X7_saw_j72 x p1 p2 rc50 v7 v8 v9 (0 : Int32)))
def f_X7_saw_b41 (x : HC) (p1 : Int32) (p2 : Int32) (p3 : Int32) (rc41 : Int32 → Int32 → Int32 → Option (Int32)) (v4 : Int32) (v5 : Int32) (v6 : Int32) : Option (Int32) := (if (2 : Int32) ≤ v6 then (if p3 = 0 then some v4 else some v5) else lp (fun _ _ _ => none : Int32 → Int32 → Int32 → Option (Int32)) (f_X7_saw_b50 x p1 p2 rc41 v6) FU v4 v5 (0 : Int32))
def f_X7_saw (x : HC) (p1 : Int32) (p2 : Int32) (p3 : Int32) : Option (Int32) := bd (f_X7_isOne x p1) (fun (q1 : Int32) => (if q1 = 0 then some (-1000000001 : Int32) else bd (f_X7_isFighter x p2) (fun (q2 : Int32) => (if q2 = 0 then some (-1000000001 : Int32) else bd (f_X7_in (Int32.toInt64 p3) (0 : Int64) (1 : Int64)) (fun (q3 : Int32) => (if q3 = 0 then some (-1000000002 : Int32) else lp (fun _ _ _ => none : Int32 → Int32 → Int32 → Option (Int32)) (f_X7_saw_b41 x p1 p2 p3) FU (0 : Int32) (0 : Int32) (0 : Int32)))))))
abbrev RM_X7_saw : Room := { frames := 2, cells := 0, slots := 0, locals := 46 }
set_option maxHeartbeats 4000000 in
set_option maxRecDepth 100000 in
theorem c_X7_saw (l : Launch) (D : va_G) (cI cZ : ClassId) (a : Nat → Nat) (x : HC) (p1 : Int32) (p2 : Int32) (p3 : Int32) (sz : Nat) {r : Int32} (hf : f_X7_saw x p1 p2 p3 = some r) : Met l yX7_saw (wM yX7_saw cX7_saw 9 (some .int)) RM_X7_saw (va_Pc [.ref (a 0), .int p1, .int p2, .int p3] (pre D cI cZ (kM cI cZ a x) sz)) (QI0 D (va_A (kM cI cZ a x) sz) (kM cI cZ a x) r) 0 0 (va_A (kM cI cZ a x) sz) := by
  unfold f_X7_saw at hf
  refine Met.ofW (cc := cX7_saw) (maxL := 9) (ret := (some .int)) (by decide) rfl ?_
  intro p e s m args below meth c s₁ B hml hv
  obtain ⟨rfl, hsz, hP, hK, hD0, hnw⟩ := hv
  have hx := B.exec
  have hb := B.bytes
  have hr := B.returns
  have hts := atoms_spec (ws := wM yX7_saw cX7_saw 9 (some .int)) B.pre
  have hG : ∀ w ∈ GW, w.before (([.ref (a 0), .int p1, .int p2, .int p3] : List Value).toArray) s = true := fun w h => hts w (List.mem_cons_of_mem _ h)
  have hown : s.vm.findClass RX7 = some m.cls := findClass_of_methodNamed B.named
  have hlocks := B.notSynchronized
  subst hsz
  have hD := hD0.self (sz := s.heap.size)
  generalize hAe : va_A (kM cI cZ a x) s.heap.size = A at hD ⊢
  have hA : ∀ q : Nat, s.heap.size ≤ q → A q := fun q h => by rw [← hAe]; exact Or.inr h
  have hS : va_S A s.heap s.heap [] := va_S.rf
  have hl := lv_entry ([.ref (a 0), .int p1, .int p2, .int p3]) (n := 9) (Nat.le_of_ble_eq_true rfl)
  rw [lg_entry_eq]
  generalize (lg_sl ([.ref (a 0), .int p1, .int p2, .int p3]) ++ List.replicate (9 - (lg_sl ([.ref (a 0), .int p1, .int p2, .int p3])).length) Slot.unset).toArray = ls at hl ⊢
  have hl : lv_has ls 9 [(0, .ref (a 0)), (1, .int p1), (2, .int p2), (3, .int p3)] := hl
  show W p l e RM_X7_saw s m (([.ref (a 0), .int p1, .int p2, .int p3] : List Value).toArray) below meth c s.heap [] 0 0 (MQ below (QI0 D A (kM cI cZ a x) r) (([.ref (a 0), .int p1, .int p2, .int p3] : List Value).toArray) s 0 0 A) (F0 m 0 ls [])
  refine lv_aload_n hx hb dX7_saw_0 rfl (lv_at hl 0 rfl) ?_
  refine lv_iload_n hx hb dX7_saw_1 rfl (lv_at hl 1 rfl) ?_
  obtain ⟨q1, hq1, hf⟩ := bd_x hf
  have hFc := freeS hD hS hA
  refine va_calli (va_runV (As := [.int p1]) (rest := []) ⟨hx, hb, hml, hown, hG⟩ (c_X7_isOne l D cI cZ a x p1 s.heap.size hq1) (cwV 1 hG (gV g_690 g_691 g_51 g_77 g_692) rfl rfl rfl (by decide +kernel) ⟨Nat.le_of_ble_eq_true rfl, Nat.le_of_ble_eq_true rfl⟩) ⟨pre_blind, va_recv hK hP (ci := 7) (q0 := 0) rfl rfl, fun U hU hW => ⟨rfl, pre_of hP hK hD hnw hU hW⟩⟩ rfl rfl hl.1 rfl (lv_room (Nat.le_of_ble_eq_true rfl)) dX7_saw_2 ⟨Nat.le_of_ble_eq_true rfl, Nat.le_of_ble_eq_true rfl⟩) hS (fun q _ h => hFc q h) hFc (fun v u t H locs ht hvm hw hB hz1 hk1 hS => ?_)
  have hw := hw.symm; subst hw
  obtain ⟨hP1, hD1⟩ := hB
  rw [ht] at hP1
  have hP := hP1
  have hD := hD1.weaken (fun _ q _ h => hFc q.1 h)
  refine lv_if_eq (tgt := 16) hx hb dX7_saw_5 (by decide) (fun cc5 => ?_) (fun cc5 => ?_)
  · have hf := if_t cc5 hf
    refine lv_ldc hx hb hown (hG _ g_676) dX7_saw_16 ?_
    exact W.iret (v := (-1000000001 : Int32)) hx hb hr (fun t ht hW => ⟨⟨(-1000000001 : Int32), (), rfl, Option.some.inj hf, by rw [ht]; exact hP, hD⟩, hS.F ht⟩) hS.2.2 dX7_saw_18
  · have hf := if_f cc5 hf
    refine lv_aload_n hx hb dX7_saw_8 rfl (lv_at hl 0 rfl) ?_
    refine lv_iload_n hx hb dX7_saw_9 rfl (lv_at hl 2 rfl) ?_
    obtain ⟨q2, hq2, hf⟩ := bd_x hf
    have hFc := freeS hD hS hA
    refine va_calli (va_runV (As := [.int p2]) (rest := []) ⟨hx, hb, hml, hown, hG⟩ (c_X7_isFighter l D cI cZ a x p2 H.size hq2) (cwV 1 hG (gV g_673 g_674 g_47 g_77 g_675) rfl rfl rfl (by decide +kernel) ⟨Nat.le_of_ble_eq_true rfl, Nat.le_of_ble_eq_true rfl⟩) ⟨pre_blind, va_recv hK hP (ci := 7) (q0 := 0) rfl rfl, fun U hU hW => ⟨rfl, pre_of hP hK hD hnw hU hW⟩⟩ rfl rfl hl.1 rfl (lv_room (Nat.le_of_ble_eq_true rfl)) dX7_saw_10 ⟨Nat.le_of_ble_eq_true rfl, Nat.le_of_ble_eq_true rfl⟩) hS (fun q _ h => hFc q h) hFc (fun v u t H locs ht hvm hw hB hz1 hk1 hS => ?_)
    have hw := hw.symm; subst hw
    obtain ⟨hP1, hD1⟩ := hB
    rw [ht] at hP1
    have hP := hP1
    have hD := hD1.weaken (fun _ q _ h => hFc q.1 h)
    refine lv_if_ne (tgt := 19) hx hb dX7_saw_13 (by decide) (fun cc13 => ?_) (fun cc13 => ?_)
    · have hf := if_f cc13 hf
      refine lv_iload_n hx hb dX7_saw_19 rfl (lv_at hl 3 rfl) ?_
      refine lv_i2l hx hb dX7_saw_20 rfl ?_
      refine lv_lconst (v := (0 : Int64)) hx hb dX7_saw_21 (by decide) ?_
      refine lv_lconst (v := (1 : Int64)) hx hb dX7_saw_22 (by decide) ?_
      obtain ⟨q3, hq3, hf⟩ := bd_x hf
      have hFc := va_free (wc := []) hD hS hA [] rfl
      refine va_calli (va_runS (As := [.long (Int32.toInt64 p3), .long (0 : Int64), .long (1 : Int64)]) (rest := []) ⟨hx, hb, hml, hown, hG⟩ (c_X7_in l D cI cZ (Int32.toInt64 p3) (0 : Int64) (1 : Int64) H.size hq3) (cwS 3 hG (gS g_602 g_603 g_77 g_604) rfl rfl rfl (by decide +kernel) ⟨Nat.le_of_ble_eq_true rfl, Nat.le_of_ble_eq_true rfl⟩) ⟨pre_blind, fun U hU hW => ⟨rfl, pre_of P_nil hK D_nil hnw hU hW⟩⟩ rfl rfl hl.1 rfl (lv_room (Nat.le_of_ble_eq_true rfl)) dX7_saw_23 ⟨Nat.le_of_ble_eq_true rfl, Nat.le_of_ble_eq_true rfl⟩) hS (fun q _ h => hFc q h) hFc (fun v u t H locs ht hvm hw hB hz1 hk1 hS => ?_)
      have hw := hw.symm; subst hw
      obtain ⟨hP1, hD1⟩ := hB
      rw [ht] at hP1
      obtain ⟨hP, hD⟩ := back hP hD [] rfl rfl hk1 hFc hP1 hD1
      refine lv_if_ne (tgt := 32) hx hb dX7_saw_26 (by decide) (fun cc26 => ?_) (fun cc26 => ?_)
      · have hf := if_f cc26 hf
        refine lv_iconst (v := (0 : Int32)) hx hb dX7_saw_32 (by decide) ?_
        refine lv_istore (lv' := [(4, .int (0 : Int32)), (0, .ref (a 0)), (1, .int p1), (2, .int p2), (3, .int p3)]) hx hb dX7_saw_33 hl (by decide) rfl (fun ls hl => ?_)
        refine lv_iconst (v := (0 : Int32)) hx hb dX7_saw_35 (by decide) ?_
        refine lv_istore (lv' := [(5, .int (0 : Int32)), (4, .int (0 : Int32)), (0, .ref (a 0)), (1, .int p1), (2, .int p2), (3, .int p3)]) hx hb dX7_saw_36 hl (by decide) rfl (fun ls hl => ?_)
        refine lv_iconst (v := (0 : Int32)) hx hb dX7_saw_38 (by decide) ?_
        refine lv_istore (lv' := [(6, .int (0 : Int32)), (5, .int (0 : Int32)), (4, .int (0 : Int32)), (0, .ref (a 0)), (1, .int p1), (2, .int p2), (3, .int p3)]) hx hb dX7_saw_39 hl (by decide) rfl (fun ls hl => ?_)
        have L41 : ∀ (n : Nat) (v4 : Int32) (v5 : Int32) (v6 : Int32) (H : Heap) (locs : List Loc) (ls : Array Slot), va_P D vwCl (kM cI cZ a x) H → va_D A (kM cI cZ a x) → va_S A s.heap H locs → lv_has ls 9 [(0, .ref (a 0)), (1, .int p1), (2, .int p2), (3, .int p3), (4, .int v4), (5, .int v5), (6, .int v6)] → lp (fun _ _ _ => none : Int32 → Int32 → Int32 → Option (Int32)) (f_X7_saw_b41 x p1 p2 p3) n v4 v5 v6 = some r → W p l e RM_X7_saw s m (([.ref (a 0), .int p1, .int p2, .int p3] : List Value).toArray) below meth c H locs 0 0 (MQ below (QI0 D A (kM cI cZ a x) r) (([.ref (a 0), .int p1, .int p2, .int p3] : List Value).toArray) s 0 0 A) (F0 m 41 ls []) := by
          intro n
          induction n with
          | zero => intro v4 v5 v6 H locs ls _ _ _ _ hf; cases (show (none : Option (Int32)) = some r from hf)
          | succ n ih41 =>
            intro v4 v5 v6 H locs ls hP hD hS hl hf
            have hf : (f_X7_saw_b41 x p1 p2 p3) (lp (fun _ _ _ => none : Int32 → Int32 → Int32 → Option (Int32)) (f_X7_saw_b41 x p1 p2 p3) n) v4 v5 v6 = some r := hf
            generalize lp (fun _ _ _ => none : Int32 → Int32 → Int32 → Option (Int32)) (f_X7_saw_b41 x p1 p2 p3) n = rc41 at ih41 hf
            unfold f_X7_saw_b41 at hf
            refine lv_iload hx hb dX7_saw_41 (lv_at hl 6 rfl) ?_
            refine lv_iconst (v := (2 : Int32)) hx hb dX7_saw_43 (by decide) ?_
            refine lv_icmp_ge (tgt := 157) hx hb dX7_saw_44 (by decide) (fun cc44 => ?_) (fun cc44 => ?_)
            · have hf := if_t cc44 hf
              refine lv_iload_n hx hb dX7_saw_157 rfl (lv_at hl 3 rfl) ?_
              refine lv_if_ne (tgt := 166) hx hb dX7_saw_158 (by decide) (fun cc158 => ?_) (fun cc158 => ?_)
              · have hf := if_f cc158 hf
                refine lv_iload hx hb dX7_saw_166 (lv_at hl 5 rfl) ?_
                exact W.iret (v := v5) hx hb hr (fun t ht hW => ⟨⟨v5, (), rfl, Option.some.inj hf, by rw [ht]; exact hP, hD⟩, hS.F ht⟩) hS.2.2 dX7_saw_168
              · have hf := if_t cc158 hf
                refine lv_iload hx hb dX7_saw_161 (lv_at hl 4 rfl) ?_
                refine lv_goto (tgt := 168) hx hb dX7_saw_163 (by decide) ?_
                exact W.iret (v := v4) hx hb hr (fun t ht hW => ⟨⟨v4, (), rfl, Option.some.inj hf, by rw [ht]; exact hP, hD⟩, hS.F ht⟩) hS.2.2 dX7_saw_168
            · have hf := if_f cc44 hf
              refine lv_iconst (v := (0 : Int32)) hx hb dX7_saw_47 (by decide) ?_
              refine lv_istore (lv' := [(7, .int (0 : Int32)), (0, .ref (a 0)), (1, .int p1), (2, .int p2), (3, .int p3), (4, .int v4), (5, .int v5), (6, .int v6)]) hx hb dX7_saw_48 hl (by decide) rfl (fun ls hl => ?_)
              have L50 : ∀ (n : Nat) (v7 : Int32) (v8 : Int32) (v9 : Int32) (H : Heap) (locs : List Loc) (ls : Array Slot), va_P D vwCl (kM cI cZ a x) H → va_D A (kM cI cZ a x) → va_S A s.heap H locs → lv_has ls 9 [(0, .ref (a 0)), (1, .int p1), (2, .int p2), (3, .int p3), (4, .int v7), (5, .int v8), (6, .int v6), (7, .int v9)] → lp (fun _ _ _ => none : Int32 → Int32 → Int32 → Option (Int32)) (f_X7_saw_b50 x p1 p2 rc41 v6) n v7 v8 v9 = some r → W p l e RM_X7_saw s m (([.ref (a 0), .int p1, .int p2, .int p3] : List Value).toArray) below meth c H locs 0 0 (MQ below (QI0 D A (kM cI cZ a x) r) (([.ref (a 0), .int p1, .int p2, .int p3] : List Value).toArray) s 0 0 A) (F0 m 50 ls []) := by
                intro n
                induction n with
                | zero => intro v7 v8 v9 H locs ls _ _ _ _ hf; cases (show (none : Option (Int32)) = some r from hf)
                | succ n ih50 =>
                  intro v7 v8 v9 H locs ls hP hD hS hl hf
                  have hf : (f_X7_saw_b50 x p1 p2 rc41 v6) (lp (fun _ _ _ => none : Int32 → Int32 → Int32 → Option (Int32)) (f_X7_saw_b50 x p1 p2 rc41 v6) n) v7 v8 v9 = some r := hf
                  generalize lp (fun _ _ _ => none : Int32 → Int32 → Int32 → Option (Int32)) (f_X7_saw_b50 x p1 p2 rc41 v6) n = rc50 at ih50 hf
                  unfold f_X7_saw_b50 at hf
                  refine lv_iload hx hb dX7_saw_50 (lv_at hl 7 rfl) ?_
                  refine lv_bipush (v := (64 : Int32)) hx hb dX7_saw_52 (by decide) ?_
                  refine lv_icmp_ge (tgt := 151) hx hb dX7_saw_54 (by decide) (fun cc54 => ?_) (fun cc54 => ?_)
                  · have hf := if_t cc54 hf
                    obtain ⟨v10, ev10⟩ : ∃ y : Int32, y = (v6 + (1 : Int32)) := ⟨_, rfl⟩
                    have hf := nm_x ev10 hf
                    refine lv_iinc (v := v10) (lv' := [(6, .int v10), (0, .ref (a 0)), (1, .int p1), (2, .int p2), (3, .int p3), (4, .int v7), (5, .int v8), (7, .int v9)]) hx hb dX7_saw_151 hl (k := 6) rfl (by rw [ev10]; rfl) (by decide) rfl (fun ls hl => ?_)
                    refine lv_goto (tgt := 41) hx hb dX7_saw_154 (by decide) ?_
                    exact ih41 v7 v8 v10 _ _ _ hP hD hS (lv_sub hl [1, 2, 3, 4, 5, 6, 0] rfl) hf
                  · have hf := if_f cc54 hf
                    refine lv_iload hx hb dX7_saw_57 (lv_at hl 6 rfl) ?_
                    refine lv_iconst (v := (1 : Int32)) hx hb dX7_saw_59 (by decide) ?_
                    have J72 : ∀ (v11 : Int32) (H : Heap) (locs : List Loc) (ls : Array Slot), va_P D vwCl (kM cI cZ a x) H → va_D A (kM cI cZ a x) → va_S A s.heap H locs → lv_has ls 9 [(0, .ref (a 0)), (1, .int p1), (2, .int p2), (3, .int p3), (4, .int v7), (5, .int v8), (6, .int v6), (7, .int v9)] → f_X7_saw_j72 x p1 p2 rc50 v7 v8 v9 v11 = some r → W p l e RM_X7_saw s m (([.ref (a 0), .int p1, .int p2, .int p3] : List Value).toArray) below meth c H locs 0 0 (MQ below (QI0 D A (kM cI cZ a x) r) (([.ref (a 0), .int p1, .int p2, .int p3] : List Value).toArray) s 0 0 A) (F0 m 72 ls [.int v11]) := by
                      intro v11 H locs ls hP hD hS hl hf
                      unfold f_X7_saw_j72 at hf
                      refine lv_aload_n hx hb dX7_saw_72 rfl (lv_at hl 0 rfl) ?_
                      refine lv_iload hx hb dX7_saw_73 (lv_at hl 7 rfl) ?_
                      obtain ⟨q12, hq12, hf⟩ := bd_x hf
                      have hFc := freeS hD hS hA
                      refine va_calli (va_runV (As := [.int v9]) (rest := [.int v11]) ⟨hx, hb, hml, hown, hG⟩ (c_X7_fameOf l D cI cZ a x v9 H.size hq12) (cwV 1 hG (gV g_775 g_776 g_63 g_77 g_777) rfl rfl rfl (by decide +kernel) ⟨Nat.le_of_ble_eq_true rfl, Nat.le_of_ble_eq_true rfl⟩) ⟨pre_blind, va_recv hK hP (ci := 7) (q0 := 0) rfl rfl, fun U hU hW => ⟨rfl, pre_of hP hK hD hnw hU hW⟩⟩ rfl rfl hl.1 rfl (lv_room (Nat.le_of_ble_eq_true rfl)) dX7_saw_75 ⟨Nat.le_of_ble_eq_true rfl, Nat.le_of_ble_eq_true rfl⟩) hS (fun q _ h => hFc q h) hFc (fun v u t H locs ht hvm hw hB hz1 hk1 hS => ?_)
                      have hw := hw.symm; subst hw
                      obtain ⟨hP1, hD1⟩ := hB
                      rw [ht] at hP1
                      have hP := hP1
                      have hD := hD1.weaken (fun _ q _ h => hFc q.1 h)
                      refine lv_iadd hx hb dX7_saw_78 ?_
                      refine lv_topi (fun v13 ev13 => ?_)
                      have hf := nm_x ev13 hf
                      refine lv_istore (lv' := [(8, .int v13), (0, .ref (a 0)), (1, .int p1), (2, .int p2), (3, .int p3), (4, .int v7), (5, .int v8), (6, .int v6), (7, .int v9)]) hx hb dX7_saw_79 hl (by decide) rfl (fun ls hl => ?_)
                      refine lv_iload hx hb dX7_saw_81 (lv_at hl 0 rfl) ?_
                      refine lv_bipush (v := (99 : Int32)) hx hb dX7_saw_83 (by decide) ?_
                      have J95 : ∀ (v14 : Int32) (H : Heap) (locs : List Loc) (ls : Array Slot), va_P D vwCl (kM cI cZ a x) H → va_D A (kM cI cZ a x) → va_S A s.heap H locs → lv_has ls 9 [(0, .ref (a 0)), (1, .int p1), (2, .int p2), (3, .int p3), (4, .int v7), (5, .int v8), (6, .int v6), (7, .int v9)] → f_X7_saw_j95 x p1 p2 rc50 v7 v8 v9 v14 = some r → W p l e RM_X7_saw s m (([.ref (a 0), .int p1, .int p2, .int p3] : List Value).toArray) below meth c H locs 0 0 (MQ below (QI0 D A (kM cI cZ a x) r) (([.ref (a 0), .int p1, .int p2, .int p3] : List Value).toArray) s 0 0 A) (F0 m 95 ls [.int v14]) := by
                        intro v14 H locs ls hP hD hS hl hf
                        unfold f_X7_saw_j95 at hf
                        refine lv_istore (lv' := [(8, .int v14), (0, .ref (a 0)), (1, .int p1), (2, .int p2), (3, .int p3), (4, .int v7), (5, .int v8), (6, .int v6), (7, .int v9)]) hx hb dX7_saw_95 hl (by decide) rfl (fun ls hl => ?_)
                        refine lv_iload hx hb dX7_saw_97 (lv_at hl 8 rfl) ?_
                        refine lv_aload_n hx hb dX7_saw_99 rfl (lv_at hl 1 rfl) ?_
                        refine va_get (D := D) (ci := 7) (v := .ref (a 1)) (C := RX7) (T := TX7) (N := 32) hx hb hG inG7 hown hK hP 0 at_M_0_0 rfl 0 (by decide) (hG _ g_564) (fun _ h9 => h9) rfl dX7_saw_100 ?_
                        refine lv_bipush (v := (35 : Int32)) hx hb dX7_saw_103 (by decide) ?_
                        refine lv_iload_n hx hb dX7_saw_105 rfl (lv_at hl 3 rfl) ?_
                        refine lv_iadd hx hb dX7_saw_106 ?_
                        obtain ⟨hb107, hf⟩ := gd hf
                        refine va_iald (cA := cI) (n := 141) (f := x 1) hx hb hK hP 1 0 at_M_0_1 rfl (inb_in hb107) dX7_saw_107 ?_
                        refine lv_iconst (v := (-1 : Int32)) hx hb dX7_saw_108 (by decide) ?_
                        refine lv_ixor hx hb dX7_saw_109 ?_
                        refine lv_iand hx hb dX7_saw_110 ?_
                        have J145 : ∀ (v15 : Int32) (v16 : Int32) (H : Heap) (locs : List Loc) (ls : Array Slot), va_P D vwCl (kM cI cZ a x) H → va_D A (kM cI cZ a x) → va_S A s.heap H locs → lv_has ls 9 [(0, .ref (a 0)), (1, .int p1), (2, .int p2), (3, .int p3), (4, .int v15), (5, .int v16), (6, .int v6), (7, .int v9)] → f_X7_saw_j145 rc50 v9 v15 v16 = some r → W p l e RM_X7_saw s m (([.ref (a 0), .int p1, .int p2, .int p3] : List Value).toArray) below meth c H locs 0 0 (MQ below (QI0 D A (kM cI cZ a x) r) (([.ref (a 0), .int p1, .int p2, .int p3] : List Value).toArray) s 0 0 A) (F0 m 145 ls []) := by
                          intro v15 v16 H locs ls hP hD hS hl hf
                          unfold f_X7_saw_j145 at hf
                          obtain ⟨v17, ev17⟩ : ∃ y : Int32, y = (v9 + (1 : Int32)) := ⟨_, rfl⟩
                          have hf := nm_x ev17 hf
                          refine lv_iinc (v := v17) (lv' := [(7, .int v17), (0, .ref (a 0)), (1, .int p1), (2, .int p2), (3, .int p3), (4, .int v15), (5, .int v16), (6, .int v6)]) hx hb dX7_saw_145 hl (k := 7) rfl (by rw [ev17]; rfl) (by decide) rfl (fun ls hl => ?_)
                          refine lv_goto (tgt := 50) hx hb dX7_saw_148 (by decide) ?_
                          exact ih50 v15 v16 v17 _ _ _ hP hD hS (lv_sub hl [1, 2, 3, 4, 5, 6, 7, 0] rfl) hf
                        refine lv_if_ne (tgt := 145) hx hb dX7_saw_111 (by decide) (fun cc111 => ?_) (fun cc111 => ?_)
                        · have hf := if_f cc111 hf
                          exact J145 v7 v8 _ _ _ hP hD hS (lv_sub hl [1, 2, 3, 4, 5, 6, 7, 8] rfl) hf
                        · have hf := if_t cc111 hf
                          refine lv_iload hx hb dX7_saw_114 (lv_at hl 0 rfl) ?_
                          refine lv_aload_n hx hb dX7_saw_116 rfl (lv_at hl 1 rfl) ?_
                          refine lv_iload_n hx hb dX7_saw_117 rfl (lv_at hl 2 rfl) ?_
                          refine lv_iload_n hx hb dX7_saw_118 rfl (lv_at hl 3 rfl) ?_
                          obtain ⟨q18, hq18, hf⟩ := bd_x hf
                          have hFc := freeS hD hS hA
                          refine va_calli (va_runV (As := [.int p1, .int p2]) (rest := [.int v14]) ⟨hx, hb, hml, hown, hG⟩ (c_X7_thought l D cI cZ a x p1 p2 H.size hq18) (cwV 2 hG (gV g_666 g_667 g_46 g_77 g_668) rfl rfl rfl (by decide +kernel) ⟨Nat.le_of_ble_eq_true rfl, Nat.le_of_ble_eq_true rfl⟩) ⟨pre_blind, va_recv hK hP (ci := 7) (q0 := 0) rfl rfl, fun U hU hW => ⟨rfl, pre_of hP hK hD hnw hU hW⟩⟩ rfl rfl hl.1 rfl (lv_room (Nat.le_of_ble_eq_true rfl)) dX7_saw_119 ⟨Nat.le_of_ble_eq_true rfl, Nat.le_of_ble_eq_true rfl⟩) hS (fun q _ h => hFc q h) hFc (fun v u t H locs ht hvm hw hB hz1 hk1 hS => ?_)
                          have hw := hw.symm; subst hw
                          obtain ⟨hP1, hD1⟩ := hB
                          rw [ht] at hP1
                          have hP := hP1
                          have hD := hD1.weaken (fun _ q _ h => hFc q.1 h)
                          refine lv_icmp_ne (tgt := 145) hx hb dX7_saw_122 (by decide) (fun cc122 => ?_) (fun cc122 => ?_)
                          · have hf := if_f cc122 hf
                            exact J145 v7 v8 _ _ _ hP hD hS (lv_sub hl [1, 2, 3, 4, 5, 6, 7, 8] rfl) hf
                          · have hf := if_t cc122 hf
                            refine lv_iload hx hb dX7_saw_125 (lv_at hl 5 rfl) ?_
                            have J140 : ∀ (v19 : Int32) (H : Heap) (locs : List Loc) (ls : Array Slot), va_P D vwCl (kM cI cZ a x) H → va_D A (kM cI cZ a x) → va_S A s.heap H locs → lv_has ls 9 [(0, .ref (a 0)), (1, .int p1), (2, .int p2), (3, .int p3), (4, .int v7), (6, .int v6), (7, .int v9)] → f_X7_saw_j140 rc50 v7 v9 v19 = some r → W p l e RM_X7_saw s m (([.ref (a 0), .int p1, .int p2, .int p3] : List Value).toArray) below meth c H locs 0 0 (MQ below (QI0 D A (kM cI cZ a x) r) (([.ref (a 0), .int p1, .int p2, .int p3] : List Value).toArray) s 0 0 A) (F0 m 140 ls [.int v19]) := by
                              intro v19 H locs ls hP hD hS hl hf
                              unfold f_X7_saw_j140 at hf
                              refine lv_istore (lv' := [(5, .int v19), (0, .ref (a 0)), (1, .int p1), (2, .int p2), (3, .int p3), (4, .int v7), (6, .int v6), (7, .int v9)]) hx hb dX7_saw_140 hl (by decide) rfl (fun ls hl => ?_)
                              obtain ⟨v20, ev20⟩ : ∃ y : Int32, y = (v7 + (1 : Int32)) := ⟨_, rfl⟩
                              have hf := nm_x ev20 hf
                              refine lv_iinc (v := v20) (lv' := [(4, .int v20), (5, .int v19), (0, .ref (a 0)), (1, .int p1), (2, .int p2), (3, .int p3), (6, .int v6), (7, .int v9)]) hx hb dX7_saw_142 hl (k := 5) rfl (by rw [ev20]; rfl) (by decide) rfl (fun ls hl => ?_)
                              exact J145 v20 v19 _ _ _ hP hD hS (lv_sub hl [2, 3, 4, 5, 0, 1, 6, 7] rfl) hf
                            refine lv_if_ne (tgt := 135) hx hb dX7_saw_127 (by decide) (fun cc127 => ?_) (fun cc127 => ?_)
                            · have hf := if_f cc127 hf
                              refine lv_iload hx hb dX7_saw_135 (lv_at hl 6 rfl) ?_
                              refine lv_iload hx hb dX7_saw_137 (lv_at hl 8 rfl) ?_
                              refine lv_iand hx hb dX7_saw_139 ?_
                              exact J140 (v8 &&& v9) _ _ _ hP hD hS (lv_sub hl [1, 2, 3, 4, 5, 7, 8] rfl) hf
                            · have hf := if_t cc127 hf
                              refine lv_iload hx hb dX7_saw_130 (lv_at hl 8 rfl) ?_
                              refine lv_goto (tgt := 140) hx hb dX7_saw_132 (by decide) ?_
                              exact J140 v9 _ _ _ hP hD hS (lv_sub hl [1, 2, 3, 4, 5, 7, 8] rfl) hf
                      refine lv_icmp_le (tgt := 93) hx hb dX7_saw_85 (by decide) (fun cc85 => ?_) (fun cc85 => ?_)
                      · have hf := if_t cc85 hf
                        refine lv_iload hx hb dX7_saw_93 (lv_at hl 0 rfl) ?_
                        exact J95 v13 _ _ _ hP hD hS (lv_sub hl [1, 2, 3, 4, 5, 6, 7, 8] rfl) hf
                      · have hf := if_f cc85 hf
                        refine lv_bipush (v := (99 : Int32)) hx hb dX7_saw_88 (by decide) ?_
                        refine lv_goto (tgt := 95) hx hb dX7_saw_90 (by decide) ?_
                        exact J95 (99 : Int32) _ _ _ hP hD hS (lv_sub hl [1, 2, 3, 4, 5, 6, 7, 8] rfl) hf
                    refine lv_icmp_ne (tgt := 71) hx hb dX7_saw_60 (by decide) (fun cc60 => ?_) (fun cc60 => ?_)
                    · have hf := if_f cc60 hf
                      refine lv_iconst (v := (0 : Int32)) hx hb dX7_saw_71 (by decide) ?_
                      exact J72 (0 : Int32) _ _ _ hP hD hS (lv_sub hl [0, 1, 2, 3, 4, 5, 6, 7] rfl) hf
                    · have hf := if_t cc60 hf
                      refine lv_aload_n hx hb dX7_saw_63 rfl (lv_at hl 0 rfl) ?_
                      refine lv_iload_n hx hb dX7_saw_64 rfl (lv_at hl 2 rfl) ?_
                      obtain ⟨q21, hq21, hf⟩ := bd_x hf
                      have hFc := freeS hD hS hA
                      refine va_calli (va_runV (As := [.int p2]) (rest := []) ⟨hx, hb, hml, hown, hG⟩ (c_X7_readsNow l D cI cZ a x p2 H.size hq21) (cwV 1 hG (gV g_677 g_678 g_48 g_77 g_679) rfl rfl rfl (by decide +kernel) ⟨Nat.le_of_ble_eq_true rfl, Nat.le_of_ble_eq_true rfl⟩) ⟨pre_blind, va_recv hK hP (ci := 7) (q0 := 0) rfl rfl, fun U hU hW => ⟨rfl, pre_of hP hK hD hnw hU hW⟩⟩ rfl rfl hl.1 rfl (lv_room (Nat.le_of_ble_eq_true rfl)) dX7_saw_65 ⟨Nat.le_of_ble_eq_true rfl, Nat.le_of_ble_eq_true rfl⟩) hS (fun q _ h => hFc q h) hFc (fun v u t H locs ht hvm hw hB hz1 hk1 hS => ?_)
                      have hw := hw.symm; subst hw
                      obtain ⟨hP1, hD1⟩ := hB
                      rw [ht] at hP1
                      have hP := hP1
                      have hD := hD1.weaken (fun _ q _ h => hFc q.1 h)
                      refine lv_goto (tgt := 72) hx hb dX7_saw_68 (by decide) ?_
                      exact J72 q21 _ _ _ hP hD hS (lv_sub hl [0, 1, 2, 3, 4, 5, 6, 7] rfl) hf
              exact L50 FU v4 v5 (0 : Int32) _ _ _ hP hD hS (lv_sub hl [1, 2, 3, 4, 5, 6, 7, 0] rfl) hf
        exact L41 FU (0 : Int32) (0 : Int32) (0 : Int32) _ _ _ hP hD hS (lv_sub hl [3, 4, 5, 6, 2, 1, 0] rfl) hf
      · have hf := if_t cc26 hf
        refine lv_ldc hx hb hown (hG _ g_605) dX7_saw_29 ?_
        exact W.iret (v := (-1000000002 : Int32)) hx hb hr (fun t ht hW => ⟨⟨(-1000000002 : Int32), (), rfl, Option.some.inj hf, by rw [ht]; exact hP, hD⟩, hS.F ht⟩) hS.2.2 dX7_saw_31
    · have hf := if_t cc13 hf
      refine lv_ldc hx hb hown (hG _ g_676) dX7_saw_16 ?_
      exact W.iret (v := (-1000000001 : Int32)) hx hb hr (fun t ht hW => ⟨⟨(-1000000001 : Int32), (), rfl, Option.some.inj hf, by rw [ht]; exact hP, hD⟩, hS.F ht⟩) hS.2.2 dX7_saw_18
def f_X7_hides_b34 (p1 : Int32) (p2 : Int32) (rc34 : Int64 → Int32 → Option (Int32)) (v3 : Int64) (v4 : Int32) : Option (Int32) := (if p1 ≤ v4 then some (Int64.toInt32 v3) else nm ((v3 * (Int32.toInt64 ((100 : Int32) - p2))) / (100 : Int64)) (fun (v5 : Int64) => nm (v4 + (1 : Int32)) (fun (v6 : Int32) => rc34 v5 v6)))
def f_X7_hides (x : HC) (p1 : Int32) (p2 : Int32) : Option (Int32) := bd (f_X7_in (Int32.toInt64 p1) (1 : Int64) (9 : Int64)) (fun (q1 : Int32) => (if q1 = 0 then some (-1000000002 : Int32) else bd (f_X7_in (Int32.toInt64 p2) (0 : Int64) (100 : Int64)) (fun (q2 : Int32) => (if q2 = 0 then some (-1000000002 : Int32) else lp (fun _ _ => none : Int64 → Int32 → Option (Int32)) (f_X7_hides_b34 p1 p2) FU (1000000000 : Int64) (0 : Int32)))))
abbrev RM_X7_hides : Room := { frames := 1, cells := 0, slots := 0, locals := 25 }
set_option maxHeartbeats 4000000 in
set_option maxRecDepth 100000 in
theorem c_X7_hides (l : Launch) (D : va_G) (cI cZ : ClassId) (a : Nat → Nat) (x : HC) (p1 : Int32) (p2 : Int32) (sz : Nat) {r : Int32} (hf : f_X7_hides x p1 p2 = some r) : Met l yX7_hides (wM yX7_hides cX7_hides 6 (some .int)) RM_X7_hides (va_Pc [.ref (a 0), .int p1, .int p2] (pre D cI cZ (kM cI cZ a x) sz)) (QI0 D (va_A (kM cI cZ a x) sz) (kM cI cZ a x) r) 0 0 (va_A (kM cI cZ a x) sz) := by
  unfold f_X7_hides at hf
  refine Met.ofW (cc := cX7_hides) (maxL := 6) (ret := (some .int)) (by decide) rfl ?_
  intro p e s m args below meth c s₁ B hml hv
  obtain ⟨rfl, hsz, hP, hK, hD0, hnw⟩ := hv
  have hx := B.exec
  have hb := B.bytes
  have hr := B.returns
  have hts := atoms_spec (ws := wM yX7_hides cX7_hides 6 (some .int)) B.pre
  have hG : ∀ w ∈ GW, w.before (([.ref (a 0), .int p1, .int p2] : List Value).toArray) s = true := fun w h => hts w (List.mem_cons_of_mem _ h)
  have hown : s.vm.findClass RX7 = some m.cls := findClass_of_methodNamed B.named
  have hlocks := B.notSynchronized
  subst hsz
  have hD := hD0.self (sz := s.heap.size)
  generalize hAe : va_A (kM cI cZ a x) s.heap.size = A at hD ⊢
  have hA : ∀ q : Nat, s.heap.size ≤ q → A q := fun q h => by rw [← hAe]; exact Or.inr h
  have hS : va_S A s.heap s.heap [] := va_S.rf
  have hl := lv_entry ([.ref (a 0), .int p1, .int p2]) (n := 6) (Nat.le_of_ble_eq_true rfl)
  rw [lg_entry_eq]
  generalize (lg_sl ([.ref (a 0), .int p1, .int p2]) ++ List.replicate (6 - (lg_sl ([.ref (a 0), .int p1, .int p2])).length) Slot.unset).toArray = ls at hl ⊢
  have hl : lv_has ls 6 [(0, .ref (a 0)), (1, .int p1), (2, .int p2)] := hl
  show W p l e RM_X7_hides s m (([.ref (a 0), .int p1, .int p2] : List Value).toArray) below meth c s.heap [] 0 0 (MQ below (QI0 D A (kM cI cZ a x) r) (([.ref (a 0), .int p1, .int p2] : List Value).toArray) s 0 0 A) (F0 m 0 ls [])
  refine lv_iload_n hx hb dX7_hides_0 rfl (lv_at hl 1 rfl) ?_
  refine lv_i2l hx hb dX7_hides_1 rfl ?_
  refine lv_lconst (v := (1 : Int64)) hx hb dX7_hides_2 (by decide) ?_
  refine lv_ldc2 hx hb hown (hG _ g_821) dX7_hides_3 ?_
  obtain ⟨q1, hq1, hf⟩ := bd_x hf
  have hFc := va_free (wc := []) hD hS hA [] rfl
  refine va_calli (va_runS (As := [.long (Int32.toInt64 p1), .long (1 : Int64), .long (9 : Int64)]) (rest := []) ⟨hx, hb, hml, hown, hG⟩ (c_X7_in l D cI cZ (Int32.toInt64 p1) (1 : Int64) (9 : Int64) s.heap.size hq1) (cwS 3 hG (gS g_602 g_603 g_77 g_604) rfl rfl rfl (by decide +kernel) ⟨Nat.le_of_ble_eq_true rfl, Nat.le_of_ble_eq_true rfl⟩) ⟨pre_blind, fun U hU hW => ⟨rfl, pre_of P_nil hK D_nil hnw hU hW⟩⟩ rfl rfl hl.1 rfl (lv_room (Nat.le_of_ble_eq_true rfl)) dX7_hides_6 ⟨Nat.le_of_ble_eq_true rfl, Nat.le_of_ble_eq_true rfl⟩) hS (fun q _ h => hFc q h) hFc (fun v u t H locs ht hvm hw hB hz1 hk1 hS => ?_)
  have hw := hw.symm; subst hw
  obtain ⟨hP1, hD1⟩ := hB
  rw [ht] at hP1
  obtain ⟨hP, hD⟩ := back hP hD [] rfl rfl hk1 hFc hP1 hD1
  refine lv_if_eq (tgt := 24) hx hb dX7_hides_9 (by decide) (fun cc9 => ?_) (fun cc9 => ?_)
  · have hf := if_t cc9 hf
    refine lv_ldc hx hb hown (hG _ g_605) dX7_hides_24 ?_
    exact W.iret (v := (-1000000002 : Int32)) hx hb hr (fun t ht hW => ⟨⟨(-1000000002 : Int32), (), rfl, Option.some.inj hf, by rw [ht]; exact hP, hD⟩, hS.F ht⟩) hS.2.2 dX7_hides_26
  · have hf := if_f cc9 hf
    refine lv_iload_n hx hb dX7_hides_12 rfl (lv_at hl 2 rfl) ?_
    refine lv_i2l hx hb dX7_hides_13 rfl ?_
    refine lv_lconst (v := (0 : Int64)) hx hb dX7_hides_14 (by decide) ?_
    refine lv_ldc2 hx hb hown (hG _ g_822) dX7_hides_15 ?_
    obtain ⟨q2, hq2, hf⟩ := bd_x hf
    have hFc := va_free (wc := []) hD hS hA [] rfl
    refine va_calli (va_runS (As := [.long (Int32.toInt64 p2), .long (0 : Int64), .long (100 : Int64)]) (rest := []) ⟨hx, hb, hml, hown, hG⟩ (c_X7_in l D cI cZ (Int32.toInt64 p2) (0 : Int64) (100 : Int64) H.size hq2) (cwS 3 hG (gS g_602 g_603 g_77 g_604) rfl rfl rfl (by decide +kernel) ⟨Nat.le_of_ble_eq_true rfl, Nat.le_of_ble_eq_true rfl⟩) ⟨pre_blind, fun U hU hW => ⟨rfl, pre_of P_nil hK D_nil hnw hU hW⟩⟩ rfl rfl hl.1 rfl (lv_room (Nat.le_of_ble_eq_true rfl)) dX7_hides_18 ⟨Nat.le_of_ble_eq_true rfl, Nat.le_of_ble_eq_true rfl⟩) hS (fun q _ h => hFc q h) hFc (fun v u t H locs ht hvm hw hB hz1 hk1 hS => ?_)
    have hw := hw.symm; subst hw
    obtain ⟨hP1, hD1⟩ := hB
    rw [ht] at hP1
    obtain ⟨hP, hD⟩ := back hP hD [] rfl rfl hk1 hFc hP1 hD1
    refine lv_if_ne (tgt := 27) hx hb dX7_hides_21 (by decide) (fun cc21 => ?_) (fun cc21 => ?_)
    · have hf := if_f cc21 hf
      refine lv_ldc2 hx hb hown (hG _ g_823) dX7_hides_27 ?_
      refine lv_lstore_n (lv' := [(3, .long (1000000000 : Int64)), (0, .ref (a 0)), (1, .int p1), (2, .int p2)]) hx hb dX7_hides_30 rfl hl (by decide) rfl (fun ls hl => ?_)
      refine lv_iconst (v := (0 : Int32)) hx hb dX7_hides_31 (by decide) ?_
      refine lv_istore (lv' := [(5, .int (0 : Int32)), (3, .long (1000000000 : Int64)), (0, .ref (a 0)), (1, .int p1), (2, .int p2)]) hx hb dX7_hides_32 hl (by decide) rfl (fun ls hl => ?_)
      have L34 : ∀ (n : Nat) (v3 : Int64) (v4 : Int32) (H : Heap) (locs : List Loc) (ls : Array Slot), va_P D vwCl (kM cI cZ a x) H → va_D A (kM cI cZ a x) → va_S A s.heap H locs → lv_has ls 6 [(1, .int p1), (2, .int p2), (3, .long v3), (5, .int v4)] → lp (fun _ _ => none : Int64 → Int32 → Option (Int32)) (f_X7_hides_b34 p1 p2) n v3 v4 = some r → W p l e RM_X7_hides s m (([.ref (a 0), .int p1, .int p2] : List Value).toArray) below meth c H locs 0 0 (MQ below (QI0 D A (kM cI cZ a x) r) (([.ref (a 0), .int p1, .int p2] : List Value).toArray) s 0 0 A) (F0 m 34 ls []) := by
        intro n
        induction n with
        | zero => intro v3 v4 H locs ls _ _ _ _ hf; cases (show (none : Option (Int32)) = some r from hf)
        | succ n ih34 =>
          intro v3 v4 H locs ls hP hD hS hl hf
          have hf : (f_X7_hides_b34 p1 p2) (lp (fun _ _ => none : Int64 → Int32 → Option (Int32)) (f_X7_hides_b34 p1 p2) n) v3 v4 = some r := hf
          generalize lp (fun _ _ => none : Int64 → Int32 → Option (Int32)) (f_X7_hides_b34 p1 p2) n = rc34 at ih34 hf
          unfold f_X7_hides_b34 at hf
          refine lv_iload hx hb dX7_hides_34 (lv_at hl 3 rfl) ?_
          refine lv_iload_n hx hb dX7_hides_36 rfl (lv_at hl 0 rfl) ?_
          refine lv_icmp_ge (tgt := 58) hx hb dX7_hides_37 (by decide) (fun cc37 => ?_) (fun cc37 => ?_)
          · have hf := if_t cc37 hf
            refine lv_lload_n hx hb dX7_hides_58 rfl (lv_at hl 2 rfl) ?_
            refine lv_l2i hx hb dX7_hides_59 rfl ?_
            exact W.iret (v := (Int64.toInt32 v3)) hx hb hr (fun t ht hW => ⟨⟨(Int64.toInt32 v3), (), rfl, Option.some.inj hf, by rw [ht]; exact hP, hD⟩, hS.F ht⟩) hS.2.2 dX7_hides_60
          · have hf := if_f cc37 hf
            refine lv_lload_n hx hb dX7_hides_40 rfl (lv_at hl 2 rfl) ?_
            refine lv_bipush (v := (100 : Int32)) hx hb dX7_hides_41 (by decide) ?_
            refine lv_iload_n hx hb dX7_hides_43 rfl (lv_at hl 1 rfl) ?_
            refine lv_isub hx hb dX7_hides_44 ?_
            refine lv_i2l hx hb dX7_hides_45 rfl ?_
            refine lv_lmul hx hb dX7_hides_46 ?_
            refine lv_ldc2 hx hb hown (hG _ g_822) dX7_hides_47 ?_
            refine lv_ldiv hx hb dX7_hides_50 (by decide) ?_
            refine lv_topl (fun v5 ev5 => ?_)
            have hf := nm_x ev5 hf
            refine lv_lstore_n (lv' := [(3, .long v5), (1, .int p1), (2, .int p2), (5, .int v4)]) hx hb dX7_hides_51 rfl hl (by decide) rfl (fun ls hl => ?_)
            obtain ⟨v6, ev6⟩ : ∃ y : Int32, y = (v4 + (1 : Int32)) := ⟨_, rfl⟩
            have hf := nm_x ev6 hf
            refine lv_iinc (v := v6) (lv' := [(5, .int v6), (3, .long v5), (1, .int p1), (2, .int p2)]) hx hb dX7_hides_52 hl (k := 3) rfl (by rw [ev6]; rfl) (by decide) rfl (fun ls hl => ?_)
            refine lv_goto (tgt := 34) hx hb dX7_hides_55 (by decide) ?_
            exact ih34 v5 v6 _ _ _ hP hD hS (lv_sub hl [2, 3, 1, 0] rfl) hf
      exact L34 FU (1000000000 : Int64) (0 : Int32) _ _ _ hP hD hS (lv_sub hl [3, 4, 1, 0] rfl) hf
    · have hf := if_t cc21 hf
      refine lv_ldc hx hb hown (hG _ g_605) dX7_hides_24 ?_
      exact W.iret (v := (-1000000002 : Int32)) hx hb hr (fun t ht hW => ⟨⟨(-1000000002 : Int32), (), rfl, Option.some.inj hf, by rw [ht]; exact hP, hD⟩, hS.F ht⟩) hS.2.2 dX7_hides_26
def f_X7_note (x : HC) (p1 : Int32) (p2 : Int32) (p3 : Int32) : Option (Int32 × HC) := bd (f_X7_isOne x p1) (fun (q1 : Int32) => (if q1 = 0 then some ((-1000000001 : Int32), x) else bd (f_X7_isFighter x p2) (fun (q2 : Int32) => (if q2 = 0 then some ((-1000000001 : Int32), x) else bd (f_X7_in (Int32.toInt64 p3) (0 : Int64) (99 : Int64)) (fun (q3 : Int32) => (if q3 = 0 then some ((-1000000002 : Int32), x) else (if (x 0 16) = (15 : Int32) then some ((-1000000004 : Int32), x) else (if inb ((3 : Int32) * (x 0 16)) 45 then nm (sa x 9 ((3 : Int32) * (x 0 16)) p1) (fun (X4 : HC) => (if inb (((3 : Int32) * (X4 0 16)) + (1 : Int32)) 45 then nm (sa X4 9 (((3 : Int32) * (X4 0 16)) + (1 : Int32)) p2) (fun (X5 : HC) => (if inb (((3 : Int32) * (X5 0 16)) + (2 : Int32)) 45 then nm (sa X5 9 (((3 : Int32) * (X5 0 16)) + (2 : Int32)) p3) (fun (X6 : HC) => nm (sf X6 16 ((X6 0 16) + (1 : Int32))) (fun (X7 : HC) => some ((X7 0 16), X7))) else none)) else none)) else none))))))))
abbrev RM_X7_note : Room := { frames := 2, cells := 0, slots := 0, locals := 46 }
set_option maxHeartbeats 4000000 in
set_option maxRecDepth 100000 in
theorem c_X7_note (l : Launch) (D : va_G) (cI cZ : ClassId) (a : Nat → Nat) (x : HC) (p1 : Int32) (p2 : Int32) (p3 : Int32) (sz : Nat) {r : Int32 × HC} (hf : f_X7_note x p1 p2 p3 = some r) : Met l yX7_note (wM yX7_note cX7_note 4 (some .int)) RM_X7_note (va_Pc [.ref (a 0), .int p1, .int p2, .int p3] (pre D cI cZ (kM cI cZ a x) sz)) (QI D (va_A (kM cI cZ a x) sz) (fun (u : HC) => (kM cI cZ a u)) r) 0 0 (va_A (kM cI cZ a x) sz) := by
  unfold f_X7_note at hf
  refine Met.ofW (cc := cX7_note) (maxL := 4) (ret := (some .int)) (by decide) rfl ?_
  intro p e s m args below meth c s₁ B hml hv
  obtain ⟨rfl, hsz, hP, hK, hD0, hnw⟩ := hv
  have hx := B.exec
  have hb := B.bytes
  have hr := B.returns
  have hts := atoms_spec (ws := wM yX7_note cX7_note 4 (some .int)) B.pre
  have hG : ∀ w ∈ GW, w.before (([.ref (a 0), .int p1, .int p2, .int p3] : List Value).toArray) s = true := fun w h => hts w (List.mem_cons_of_mem _ h)
  have hown : s.vm.findClass RX7 = some m.cls := findClass_of_methodNamed B.named
  have hlocks := B.notSynchronized
  subst hsz
  have hD := hD0.self (sz := s.heap.size)
  generalize hAe : va_A (kM cI cZ a x) s.heap.size = A at hD ⊢
  have hA : ∀ q : Nat, s.heap.size ≤ q → A q := fun q h => by rw [← hAe]; exact Or.inr h
  have hS : va_S A s.heap s.heap [] := va_S.rf
  have hl := lv_entry ([.ref (a 0), .int p1, .int p2, .int p3]) (n := 4) (Nat.le_of_ble_eq_true rfl)
  rw [lg_entry_eq]
  generalize (lg_sl ([.ref (a 0), .int p1, .int p2, .int p3]) ++ List.replicate (4 - (lg_sl ([.ref (a 0), .int p1, .int p2, .int p3])).length) Slot.unset).toArray = ls at hl ⊢
  have hl : lv_has ls 4 [(0, .ref (a 0)), (1, .int p1), (2, .int p2), (3, .int p3)] := hl
  show W p l e RM_X7_note s m (([.ref (a 0), .int p1, .int p2, .int p3] : List Value).toArray) below meth c s.heap [] 0 0 (MQ below (QI D A (fun (u : HC) => (kM cI cZ a u)) r) (([.ref (a 0), .int p1, .int p2, .int p3] : List Value).toArray) s 0 0 A) (F0 m 0 ls [])
  refine lv_aload_n hx hb dX7_note_0 rfl (lv_at hl 0 rfl) ?_
  refine lv_iload_n hx hb dX7_note_1 rfl (lv_at hl 1 rfl) ?_
  obtain ⟨q1, hq1, hf⟩ := bd_x hf
  have hFc := freeS hD hS hA
  refine va_calli (va_runV (As := [.int p1]) (rest := []) ⟨hx, hb, hml, hown, hG⟩ (c_X7_isOne l D cI cZ a x p1 s.heap.size hq1) (cwV 1 hG (gV g_690 g_691 g_51 g_77 g_692) rfl rfl rfl (by decide +kernel) ⟨Nat.le_of_ble_eq_true rfl, Nat.le_of_ble_eq_true rfl⟩) ⟨pre_blind, va_recv hK hP (ci := 7) (q0 := 0) rfl rfl, fun U hU hW => ⟨rfl, pre_of hP hK hD hnw hU hW⟩⟩ rfl rfl hl.1 rfl (lv_room (Nat.le_of_ble_eq_true rfl)) dX7_note_2 ⟨Nat.le_of_ble_eq_true rfl, Nat.le_of_ble_eq_true rfl⟩) hS (fun q _ h => hFc q h) hFc (fun v u t H locs ht hvm hw hB hz1 hk1 hS => ?_)
  have hw := hw.symm; subst hw
  obtain ⟨hP1, hD1⟩ := hB
  rw [ht] at hP1
  have hP := hP1
  have hD := hD1.weaken (fun _ q _ h => hFc q.1 h)
  refine lv_if_eq (tgt := 16) hx hb dX7_note_5 (by decide) (fun cc5 => ?_) (fun cc5 => ?_)
  · have hf := if_t cc5 hf
    refine lv_ldc hx hb hown (hG _ g_676) dX7_note_16 ?_
    exact W.iret (v := (-1000000001 : Int32)) hx hb hr (fun t ht hW => ⟨⟨(-1000000001 : Int32), x, rfl, ⟨pr_1 hf, pr_2 hf⟩, by rw [ht]; exact hP, hD⟩, hS.F ht⟩) hS.2.2 dX7_note_18
  · have hf := if_f cc5 hf
    refine lv_aload_n hx hb dX7_note_8 rfl (lv_at hl 0 rfl) ?_
    refine lv_iload_n hx hb dX7_note_9 rfl (lv_at hl 2 rfl) ?_
    obtain ⟨q2, hq2, hf⟩ := bd_x hf
    have hFc := freeS hD hS hA
    refine va_calli (va_runV (As := [.int p2]) (rest := []) ⟨hx, hb, hml, hown, hG⟩ (c_X7_isFighter l D cI cZ a x p2 H.size hq2) (cwV 1 hG (gV g_673 g_674 g_47 g_77 g_675) rfl rfl rfl (by decide +kernel) ⟨Nat.le_of_ble_eq_true rfl, Nat.le_of_ble_eq_true rfl⟩) ⟨pre_blind, va_recv hK hP (ci := 7) (q0 := 0) rfl rfl, fun U hU hW => ⟨rfl, pre_of hP hK hD hnw hU hW⟩⟩ rfl rfl hl.1 rfl (lv_room (Nat.le_of_ble_eq_true rfl)) dX7_note_10 ⟨Nat.le_of_ble_eq_true rfl, Nat.le_of_ble_eq_true rfl⟩) hS (fun q _ h => hFc q h) hFc (fun v u t H locs ht hvm hw hB hz1 hk1 hS => ?_)
    have hw := hw.symm; subst hw
    obtain ⟨hP1, hD1⟩ := hB
    rw [ht] at hP1
    have hP := hP1
    have hD := hD1.weaken (fun _ q _ h => hFc q.1 h)
    refine lv_if_ne (tgt := 19) hx hb dX7_note_13 (by decide) (fun cc13 => ?_) (fun cc13 => ?_)
    · have hf := if_f cc13 hf
      refine lv_iload_n hx hb dX7_note_19 rfl (lv_at hl 3 rfl) ?_
      refine lv_i2l hx hb dX7_note_20 rfl ?_
      refine lv_lconst (v := (0 : Int64)) hx hb dX7_note_21 (by decide) ?_
      refine lv_ldc2 hx hb hown (hG _ g_741) dX7_note_22 ?_
      obtain ⟨q3, hq3, hf⟩ := bd_x hf
      have hFc := va_free (wc := []) hD hS hA [] rfl
      refine va_calli (va_runS (As := [.long (Int32.toInt64 p3), .long (0 : Int64), .long (99 : Int64)]) (rest := []) ⟨hx, hb, hml, hown, hG⟩ (c_X7_in l D cI cZ (Int32.toInt64 p3) (0 : Int64) (99 : Int64) H.size hq3) (cwS 3 hG (gS g_602 g_603 g_77 g_604) rfl rfl rfl (by decide +kernel) ⟨Nat.le_of_ble_eq_true rfl, Nat.le_of_ble_eq_true rfl⟩) ⟨pre_blind, fun U hU hW => ⟨rfl, pre_of P_nil hK D_nil hnw hU hW⟩⟩ rfl rfl hl.1 rfl (lv_room (Nat.le_of_ble_eq_true rfl)) dX7_note_25 ⟨Nat.le_of_ble_eq_true rfl, Nat.le_of_ble_eq_true rfl⟩) hS (fun q _ h => hFc q h) hFc (fun v u t H locs ht hvm hw hB hz1 hk1 hS => ?_)
      have hw := hw.symm; subst hw
      obtain ⟨hP1, hD1⟩ := hB
      rw [ht] at hP1
      obtain ⟨hP, hD⟩ := back hP hD [] rfl rfl hk1 hFc hP1 hD1
      refine lv_if_ne (tgt := 34) hx hb dX7_note_28 (by decide) (fun cc28 => ?_) (fun cc28 => ?_)
      · have hf := if_f cc28 hf
        refine lv_aload_n hx hb dX7_note_34 rfl (lv_at hl 0 rfl) ?_
        refine va_get (D := D) (ci := 7) (v := .int (x 0 16)) (C := RX7) (T := TX7) (N := 32) hx hb hG inG7 hown hK hP 0 at_M_0_0 rfl 16 (by decide) (hG _ g_580) (fun _ h9 => h9) rfl dX7_note_35 ?_
        refine lv_bipush (v := (15 : Int32)) hx hb dX7_note_38 (by decide) ?_
        refine lv_icmp_ne (tgt := 46) hx hb dX7_note_40 (by decide) (fun cc40 => ?_) (fun cc40 => ?_)
        · have hf := if_f cc40 hf
          refine lv_aload_n hx hb dX7_note_46 rfl (lv_at hl 0 rfl) ?_
          refine va_get (D := D) (ci := 7) (v := .ref (a 9)) (C := RX7) (T := TX7) (N := 32) hx hb hG inG7 hown hK hP 0 at_M_0_0 rfl 15 (by decide) (hG _ g_579) (fun _ h9 => h9) rfl dX7_note_47 ?_
          refine lv_iconst (v := (3 : Int32)) hx hb dX7_note_50 (by decide) ?_
          refine lv_aload_n hx hb dX7_note_51 rfl (lv_at hl 0 rfl) ?_
          refine va_get (D := D) (ci := 7) (v := .int (x 0 16)) (C := RX7) (T := TX7) (N := 32) hx hb hG inG7 hown hK hP 0 at_M_0_0 rfl 16 (by decide) (hG _ g_580) (fun _ h9 => h9) rfl dX7_note_52 ?_
          refine lv_imul hx hb dX7_note_55 ?_
          refine lv_iload_n hx hb dX7_note_56 rfl (lv_at hl 1 rfl) ?_
          obtain ⟨hb57, hf⟩ := gd hf
          refine va_iast (cA := cI) (n := 45) (f := x 9) hx hb hK hP hD hS 9 0 at_M_0_9 rfl (inb_in hb57) dX7_note_57 (fun H locs hP hD hS => ?_)
          obtain ⟨X4, eX4⟩ : ∃ y : HC, y = (sa x 9 ((3 : Int32) * (x 0 16)) p1) := ⟨_, rfl⟩
          have hf := nm_x eX4 hf
          have hP := wP (sa_M_0_9.trans (congrArg (fun z : HC => (kM cI cZ a z)) eX4.symm)) hP
          have hD := wD (sa_M_0_9.trans (congrArg (fun z : HC => (kM cI cZ a z)) eX4.symm)) hD
          refine lv_aload_n hx hb dX7_note_58 rfl (lv_at hl 0 rfl) ?_
          refine va_get (D := D) (ci := 7) (v := .ref (a 9)) (C := RX7) (T := TX7) (N := 32) hx hb hG inG7 hown hK hP 0 at_M_0_0 rfl 15 (by decide) (hG _ g_579) (fun _ h9 => h9) rfl dX7_note_59 ?_
          refine lv_iconst (v := (3 : Int32)) hx hb dX7_note_62 (by decide) ?_
          refine lv_aload_n hx hb dX7_note_63 rfl (lv_at hl 0 rfl) ?_
          refine va_get (D := D) (ci := 7) (v := .int (X4 0 16)) (C := RX7) (T := TX7) (N := 32) hx hb hG inG7 hown hK hP 0 at_M_0_0 rfl 16 (by decide) (hG _ g_580) (fun _ h9 => h9) rfl dX7_note_64 ?_
          refine lv_imul hx hb dX7_note_67 ?_
          refine lv_iconst (v := (1 : Int32)) hx hb dX7_note_68 (by decide) ?_
          refine lv_iadd hx hb dX7_note_69 ?_
          refine lv_iload_n hx hb dX7_note_70 rfl (lv_at hl 2 rfl) ?_
          obtain ⟨hb71, hf⟩ := gd hf
          refine va_iast (cA := cI) (n := 45) (f := X4 9) hx hb hK hP hD hS 9 0 at_M_0_9 rfl (inb_in hb71) dX7_note_71 (fun H locs hP hD hS => ?_)
          obtain ⟨X5, eX5⟩ : ∃ y : HC, y = (sa X4 9 (((3 : Int32) * (X4 0 16)) + (1 : Int32)) p2) := ⟨_, rfl⟩
          have hf := nm_x eX5 hf
          have hP := wP (sa_M_0_9.trans (congrArg (fun z : HC => (kM cI cZ a z)) eX5.symm)) hP
          have hD := wD (sa_M_0_9.trans (congrArg (fun z : HC => (kM cI cZ a z)) eX5.symm)) hD
          refine lv_aload_n hx hb dX7_note_72 rfl (lv_at hl 0 rfl) ?_
          refine va_get (D := D) (ci := 7) (v := .ref (a 9)) (C := RX7) (T := TX7) (N := 32) hx hb hG inG7 hown hK hP 0 at_M_0_0 rfl 15 (by decide) (hG _ g_579) (fun _ h9 => h9) rfl dX7_note_73 ?_
          refine lv_iconst (v := (3 : Int32)) hx hb dX7_note_76 (by decide) ?_
          refine lv_aload_n hx hb dX7_note_77 rfl (lv_at hl 0 rfl) ?_
          refine va_get (D := D) (ci := 7) (v := .int (X5 0 16)) (C := RX7) (T := TX7) (N := 32) hx hb hG inG7 hown hK hP 0 at_M_0_0 rfl 16 (by decide) (hG _ g_580) (fun _ h9 => h9) rfl dX7_note_78 ?_
          refine lv_imul hx hb dX7_note_81 ?_
          refine lv_iconst (v := (2 : Int32)) hx hb dX7_note_82 (by decide) ?_
          refine lv_iadd hx hb dX7_note_83 ?_
          refine lv_iload_n hx hb dX7_note_84 rfl (lv_at hl 3 rfl) ?_
          obtain ⟨hb85, hf⟩ := gd hf
          refine va_iast (cA := cI) (n := 45) (f := X5 9) hx hb hK hP hD hS 9 0 at_M_0_9 rfl (inb_in hb85) dX7_note_85 (fun H locs hP hD hS => ?_)
          obtain ⟨X6, eX6⟩ : ∃ y : HC, y = (sa X5 9 (((3 : Int32) * (X5 0 16)) + (2 : Int32)) p3) := ⟨_, rfl⟩
          have hf := nm_x eX6 hf
          have hP := wP (sa_M_0_9.trans (congrArg (fun z : HC => (kM cI cZ a z)) eX6.symm)) hP
          have hD := wD (sa_M_0_9.trans (congrArg (fun z : HC => (kM cI cZ a z)) eX6.symm)) hD
          refine lv_aload_n hx hb dX7_note_86 rfl (lv_at hl 0 rfl) ?_
          refine lv_dup hx hb dX7_note_87 rfl ?_
          refine va_get (D := D) (ci := 7) (v := .int (X6 0 16)) (C := RX7) (T := TX7) (N := 32) hx hb hG inG7 hown hK hP 0 at_M_0_0 rfl 16 (by decide) (hG _ g_580) (fun _ h9 => h9) rfl dX7_note_88 ?_
          refine lv_iconst (v := (1 : Int32)) hx hb dX7_note_91 (by decide) ?_
          refine lv_iadd hx hb dX7_note_92 ?_
          refine va_put (D := D) (ci := 7) (v := .int ((X6 0 16) + (1 : Int32))) (ty := .int) (C := RX7) (T := TX7) (N := 32) hx hb hG inG7 tyX7 tyX7_ok nmX7 hown hK hP hD hS 0 at_M_0_0 rfl 16 (by decide) (hG _ g_580) (fun _ h9 => h9) rfl (by decide +kernel) rfl rfl (Nat.le_of_ble_eq_true rfl) dX7_note_93 (fun H locs hP hD hS => ?_)
          obtain ⟨X7, eX7⟩ : ∃ y : HC, y = (sf X6 16 ((X6 0 16) + (1 : Int32))) := ⟨_, rfl⟩
          have hf := nm_x eX7 hf
          have hP := wP (sf_M_0_16.trans (congrArg (fun z : HC => (kM cI cZ a z)) eX7.symm)) hP
          have hD := wD (sf_M_0_16.trans (congrArg (fun z : HC => (kM cI cZ a z)) eX7.symm)) hD
          refine lv_aload_n hx hb dX7_note_96 rfl (lv_at hl 0 rfl) ?_
          refine va_get (D := D) (ci := 7) (v := .int (X7 0 16)) (C := RX7) (T := TX7) (N := 32) hx hb hG inG7 hown hK hP 0 at_M_0_0 rfl 16 (by decide) (hG _ g_580) (fun _ h9 => h9) rfl dX7_note_97 ?_
          exact W.iret (v := (X7 0 16)) hx hb hr (fun t ht hW => ⟨⟨(X7 0 16), X7, rfl, ⟨pr_1 hf, pr_2 hf⟩, by rw [ht]; exact hP, hD⟩, hS.F ht⟩) hS.2.2 dX7_note_100
        · have hf := if_t cc40 hf
          refine lv_ldc hx hb hown (hG _ g_606) dX7_note_43 ?_
          exact W.iret (v := (-1000000004 : Int32)) hx hb hr (fun t ht hW => ⟨⟨(-1000000004 : Int32), x, rfl, ⟨pr_1 hf, pr_2 hf⟩, by rw [ht]; exact hP, hD⟩, hS.F ht⟩) hS.2.2 dX7_note_45
      · have hf := if_t cc28 hf
        refine lv_ldc hx hb hown (hG _ g_605) dX7_note_31 ?_
        exact W.iret (v := (-1000000002 : Int32)) hx hb hr (fun t ht hW => ⟨⟨(-1000000002 : Int32), x, rfl, ⟨pr_1 hf, pr_2 hf⟩, by rw [ht]; exact hP, hD⟩, hS.F ht⟩) hS.2.2 dX7_note_33
    · have hf := if_t cc13 hf
      refine lv_ldc hx hb hown (hG _ g_676) dX7_note_16 ?_
      exact W.iret (v := (-1000000001 : Int32)) hx hb hr (fun t ht hW => ⟨⟨(-1000000001 : Int32), x, rfl, ⟨pr_1 hf, pr_2 hf⟩, by rw [ht]; exact hP, hD⟩, hS.F ht⟩) hS.2.2 dX7_note_18
def f_X7_tear (x : HC) : Option (Int32 × HC) := nm (x 0 16) (fun (v1 : Int32) => nm (sf x 16 (0 : Int32)) (fun (X2 : HC) => some (v1, X2)))
abbrev RM_X7_tear : Room := { frames := 0, cells := 0, slots := 0, locals := 0 }
set_option maxHeartbeats 4000000 in
set_option maxRecDepth 100000 in
theorem c_X7_tear (l : Launch) (D : va_G) (cI cZ : ClassId) (a : Nat → Nat) (x : HC) (sz : Nat) {r : Int32 × HC} (hf : f_X7_tear x = some r) : Met l yX7_tear (wM yX7_tear cX7_tear 2 (some .int)) RM_X7_tear (va_Pc [.ref (a 0)] (pre D cI cZ (kM cI cZ a x) sz)) (QI D (va_A (kM cI cZ a x) sz) (fun (u : HC) => (kM cI cZ a u)) r) 0 0 (va_A (kM cI cZ a x) sz) := by
  unfold f_X7_tear at hf
  refine Met.ofW (cc := cX7_tear) (maxL := 2) (ret := (some .int)) (by decide) rfl ?_
  intro p e s m args below meth c s₁ B hml hv
  obtain ⟨rfl, hsz, hP, hK, hD0, hnw⟩ := hv
  have hx := B.exec
  have hb := B.bytes
  have hr := B.returns
  have hts := atoms_spec (ws := wM yX7_tear cX7_tear 2 (some .int)) B.pre
  have hG : ∀ w ∈ GW, w.before (([.ref (a 0)] : List Value).toArray) s = true := fun w h => hts w (List.mem_cons_of_mem _ h)
  have hown : s.vm.findClass RX7 = some m.cls := findClass_of_methodNamed B.named
  have hlocks := B.notSynchronized
  subst hsz
  have hD := hD0.self (sz := s.heap.size)
  generalize hAe : va_A (kM cI cZ a x) s.heap.size = A at hD ⊢
  have hA : ∀ q : Nat, s.heap.size ≤ q → A q := fun q h => by rw [← hAe]; exact Or.inr h
  have hS : va_S A s.heap s.heap [] := va_S.rf
  have hl := lv_entry ([.ref (a 0)]) (n := 2) (Nat.le_of_ble_eq_true rfl)
  rw [lg_entry_eq]
  generalize (lg_sl ([.ref (a 0)]) ++ List.replicate (2 - (lg_sl ([.ref (a 0)])).length) Slot.unset).toArray = ls at hl ⊢
  have hl : lv_has ls 2 [(0, .ref (a 0))] := hl
  show W p l e RM_X7_tear s m (([.ref (a 0)] : List Value).toArray) below meth c s.heap [] 0 0 (MQ below (QI D A (fun (u : HC) => (kM cI cZ a u)) r) (([.ref (a 0)] : List Value).toArray) s 0 0 A) (F0 m 0 ls [])
  refine lv_aload_n hx hb dX7_tear_0 rfl (lv_at hl 0 rfl) ?_
  refine va_get (D := D) (ci := 7) (v := .int (x 0 16)) (C := RX7) (T := TX7) (N := 32) hx hb hG inG7 hown hK hP 0 at_M_0_0 rfl 16 (by decide) (hG _ g_580) (fun _ h9 => h9) rfl dX7_tear_1 ?_
  refine lv_topi (fun v1 ev1 => ?_)
  have hf := nm_x ev1 hf
  refine lv_istore_n (lv' := [(1, .int v1), (0, .ref (a 0))]) hx hb dX7_tear_4 rfl hl (by decide) rfl (fun ls hl => ?_)
  refine lv_aload_n hx hb dX7_tear_5 rfl (lv_at hl 1 rfl) ?_
  refine lv_iconst (v := (0 : Int32)) hx hb dX7_tear_6 (by decide) ?_
  refine va_put (D := D) (ci := 7) (v := .int (0 : Int32)) (ty := .int) (C := RX7) (T := TX7) (N := 32) hx hb hG inG7 tyX7 tyX7_ok nmX7 hown hK hP hD hS 0 at_M_0_0 rfl 16 (by decide) (hG _ g_580) (fun _ h9 => h9) rfl (by decide +kernel) rfl rfl (Nat.le_of_ble_eq_true rfl) dX7_tear_7 (fun H locs hP hD hS => ?_)
  obtain ⟨X2, eX2⟩ : ∃ y : HC, y = (sf x 16 (0 : Int32)) := ⟨_, rfl⟩
  have hf := nm_x eX2 hf
  have hP := wP (sf_M_0_16.trans (congrArg (fun z : HC => (kM cI cZ a z)) eX2.symm)) hP
  have hD := wD (sf_M_0_16.trans (congrArg (fun z : HC => (kM cI cZ a z)) eX2.symm)) hD
  refine lv_iload_n hx hb dX7_tear_10 rfl (lv_at hl 0 rfl) ?_
  exact W.iret (v := v1) hx hb hr (fun t ht hW => ⟨⟨v1, X2, rfl, ⟨pr_1 hf, pr_2 hf⟩, by rw [ht]; exact hP, hD⟩, hS.F ht⟩) hS.2.2 dX7_tear_11
