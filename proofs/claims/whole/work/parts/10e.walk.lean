def f_X7_judge_b2 (x : HC) (rc2 : Int32 → Option (Int32)) (v1 : Int32) : Option (Int32) := (if (x 0 16) ≤ v1 then some (-1 : Int32) else (if inb ((3 : Int32) * v1) 45 then (if inb (((3 : Int32) * v1) + (1 : Int32)) 45 then bd (f_X7_thought x (x 9 (Int32.toNatClampNeg ((3 : Int32) * v1))) (x 9 (Int32.toNatClampNeg (((3 : Int32) * v1) + (1 : Int32))))) (fun (q2 : Int32) => (if inb (((3 : Int32) * v1) + (2 : Int32)) 45 then (if q2 = (x 9 (Int32.toNatClampNeg (((3 : Int32) * v1) + (2 : Int32)))) then nm (v1 + (1 : Int32)) (fun (v3 : Int32) => rc2 v3) else some v1) else none)) else none) else none))
def f_X7_judge (x : HC) : Option (Int32) := lp (fun _ => none : Int32 → Option (Int32)) (f_X7_judge_b2 x) FU (0 : Int32)
abbrev RM_X7_judge : Room := { frames := 1, cells := 0, slots := 0, locals := 22 }
set_option maxHeartbeats 4000000 in
set_option maxRecDepth 100000 in
theorem c_X7_judge (l : Launch) (D : va_G) (cI cZ : ClassId) (a : Nat → Nat) (x : HC) (sz : Nat) {r : Int32} (hf : f_X7_judge x = some r) : Met l yX7_judge (wM yX7_judge cX7_judge 2 (some .int)) RM_X7_judge (va_Pc [.ref (a 0)] (pre D cI cZ (kM cI cZ a x) sz)) (QI0 D (va_A (kM cI cZ a x) sz) (kM cI cZ a x) r) 0 0 (va_A (kM cI cZ a x) sz) := by
  unfold f_X7_judge at hf
  refine Met.ofW (cc := cX7_judge) (maxL := 2) (ret := (some .int)) (by decide) rfl ?_
  intro p e s m args below meth c s₁ B hml hv
  obtain ⟨rfl, hsz, hP, hK, hD0, hnw⟩ := hv
  have hx := B.exec
  have hb := B.bytes
  have hr := B.returns
  have hts := atoms_spec (ws := wM yX7_judge cX7_judge 2 (some .int)) B.pre
  have hG : ∀ w ∈ GW, w.before (([.ref (a 0)] : List Value).toArray) s = true := fun w h => hts w (List.mem_cons_of_mem _ h)
  have hown : s.vm.findClass RX7 = some m.cls := findClass_of_methodNamed B.named
  have hlocks := B.notSynchronized
  subst hsz
  have hD := hD0.self (sz := s.heap.size)
  generalize hAe : va_A (kM cI cZ a x) s.heap.size = A at hD ⊢
  have hA : ∀ q : Nat, s.heap.size ≤ q → A q := fun q h => by rw [← hAe]; exact Or.inr h
  have hS : va_S A s.heap s.heap [] := va_S.rf
  have hl := lv_entry ([.ref (a 0)]) (n := 2) (Nat.le_of_ble_eq_true rfl)
  rw [lg_entry_eq]
  generalize (lg_sl ([.ref (a 0)]) ++ List.replicate (2 - (lg_sl ([.ref (a 0)])).length) Slot.unset).toArray = ls at hl ⊢
  have hl : lv_has ls 2 [(0, .ref (a 0))] := hl
  show W p l e RM_X7_judge s m (([.ref (a 0)] : List Value).toArray) below meth c s.heap [] 0 0 (MQ below (QI0 D A (kM cI cZ a x) r) (([.ref (a 0)] : List Value).toArray) s 0 0 A) (F0 m 0 ls [])
  refine lv_iconst (v := (0 : Int32)) hx hb dX7_judge_0 (by decide) ?_
  refine lv_istore_n (lv' := [(1, .int (0 : Int32)), (0, .ref (a 0))]) hx hb dX7_judge_1 rfl hl (by decide) rfl (fun ls hl => ?_)
  have L2 : ∀ (n : Nat) (v1 : Int32) (H : Heap) (locs : List Loc) (ls : Array Slot), va_P D vwCl (kM cI cZ a x) H → va_D A (kM cI cZ a x) → va_S A s.heap H locs → lv_has ls 2 [(0, .ref (a 0)), (1, .int v1)] → lp (fun _ => none : Int32 → Option (Int32)) (f_X7_judge_b2 x) n v1 = some r → W p l e RM_X7_judge s m (([.ref (a 0)] : List Value).toArray) below meth c H locs 0 0 (MQ below (QI0 D A (kM cI cZ a x) r) (([.ref (a 0)] : List Value).toArray) s 0 0 A) (F0 m 2 ls []) := by
    intro n
    induction n with
    | zero => intro v1 H locs ls _ _ _ _ hf; cases (show (none : Option (Int32)) = some r from hf)
    | succ n ih2 =>
      intro v1 H locs ls hP hD hS hl hf
      have hf : (f_X7_judge_b2 x) (lp (fun _ => none : Int32 → Option (Int32)) (f_X7_judge_b2 x) n) v1 = some r := hf
      generalize lp (fun _ => none : Int32 → Option (Int32)) (f_X7_judge_b2 x) n = rc2 at ih2 hf
      unfold f_X7_judge_b2 at hf
      refine lv_iload_n hx hb dX7_judge_2 rfl (lv_at hl 1 rfl) ?_
      refine lv_aload_n hx hb dX7_judge_3 rfl (lv_at hl 0 rfl) ?_
      refine va_get (D := D) (ci := 7) (v := .int (x 0 16)) (C := RX7) (T := TX7) (N := 32) hx hb hG inG7 hown hK hP 0 at_M_0_0 rfl 16 (by decide) (hG _ g_580) (fun _ h9 => h9) rfl dX7_judge_4 ?_
      refine lv_icmp_ge (tgt := 53) hx hb dX7_judge_7 (by decide) (fun cc7 => ?_) (fun cc7 => ?_)
      · have hf := if_t cc7 hf
        refine lv_iconst (v := (-1 : Int32)) hx hb dX7_judge_53 (by decide) ?_
        exact W.iret (v := (-1 : Int32)) hx hb hr (fun t ht hW => ⟨⟨(-1 : Int32), (), rfl, Option.some.inj hf, by rw [ht]; exact hP, hD⟩, hS.F ht⟩) hS.2.2 dX7_judge_54
      · have hf := if_f cc7 hf
        refine lv_aload_n hx hb dX7_judge_10 rfl (lv_at hl 0 rfl) ?_
        refine lv_aload_n hx hb dX7_judge_11 rfl (lv_at hl 0 rfl) ?_
        refine va_get (D := D) (ci := 7) (v := .ref (a 9)) (C := RX7) (T := TX7) (N := 32) hx hb hG inG7 hown hK hP 0 at_M_0_0 rfl 15 (by decide) (hG _ g_579) (fun _ h9 => h9) rfl dX7_judge_12 ?_
        refine lv_iconst (v := (3 : Int32)) hx hb dX7_judge_15 (by decide) ?_
        refine lv_iload_n hx hb dX7_judge_16 rfl (lv_at hl 1 rfl) ?_
        refine lv_imul hx hb dX7_judge_17 ?_
        obtain ⟨hb18, hf⟩ := gd hf
        refine va_iald (cA := cI) (n := 45) (f := x 9) hx hb hK hP 9 0 at_M_0_9 rfl (inb_in hb18) dX7_judge_18 ?_
        refine lv_aload_n hx hb dX7_judge_19 rfl (lv_at hl 0 rfl) ?_
        refine va_get (D := D) (ci := 7) (v := .ref (a 9)) (C := RX7) (T := TX7) (N := 32) hx hb hG inG7 hown hK hP 0 at_M_0_0 rfl 15 (by decide) (hG _ g_579) (fun _ h9 => h9) rfl dX7_judge_20 ?_
        refine lv_iconst (v := (3 : Int32)) hx hb dX7_judge_23 (by decide) ?_
        refine lv_iload_n hx hb dX7_judge_24 rfl (lv_at hl 1 rfl) ?_
        refine lv_imul hx hb dX7_judge_25 ?_
        refine lv_iconst (v := (1 : Int32)) hx hb dX7_judge_26 (by decide) ?_
        refine lv_iadd hx hb dX7_judge_27 ?_
        obtain ⟨hb28, hf⟩ := gd hf
        refine va_iald (cA := cI) (n := 45) (f := x 9) hx hb hK hP 9 0 at_M_0_9 rfl (inb_in hb28) dX7_judge_28 ?_
        obtain ⟨q2, hq2, hf⟩ := bd_x hf
        have hFc := freeS hD hS hA
        refine va_calli (va_runV (As := [.int (x 9 (Int32.toNatClampNeg ((3 : Int32) * v1))), .int (x 9 (Int32.toNatClampNeg (((3 : Int32) * v1) + (1 : Int32))))]) (rest := []) ⟨hx, hb, hml, hown, hG⟩ (c_X7_thought l D cI cZ a x (x 9 (Int32.toNatClampNeg ((3 : Int32) * v1))) (x 9 (Int32.toNatClampNeg (((3 : Int32) * v1) + (1 : Int32)))) H.size hq2) (cwV 2 hG (gV g_666 g_667 g_46 g_77 g_668) rfl rfl rfl (by decide +kernel) ⟨Nat.le_of_ble_eq_true rfl, Nat.le_of_ble_eq_true rfl⟩) ⟨pre_blind, va_recv hK hP (ci := 7) (q0 := 0) rfl rfl, fun U hU hW => ⟨rfl, pre_of hP hK hD hnw hU hW⟩⟩ rfl rfl hl.1 rfl (lv_room (Nat.le_of_ble_eq_true rfl)) dX7_judge_29 ⟨Nat.le_of_ble_eq_true rfl, Nat.le_of_ble_eq_true rfl⟩) hS (fun q _ h => hFc q h) hFc (fun v u t H locs ht hvm hw hB hz1 hk1 hS => ?_)
        have hw := hw.symm; subst hw
        obtain ⟨hP1, hD1⟩ := hB
        rw [ht] at hP1
        have hP := hP1
        have hD := hD1.weaken (fun _ q _ h => hFc q.1 h)
        refine lv_aload_n hx hb dX7_judge_32 rfl (lv_at hl 0 rfl) ?_
        refine va_get (D := D) (ci := 7) (v := .ref (a 9)) (C := RX7) (T := TX7) (N := 32) hx hb hG inG7 hown hK hP 0 at_M_0_0 rfl 15 (by decide) (hG _ g_579) (fun _ h9 => h9) rfl dX7_judge_33 ?_
        refine lv_iconst (v := (3 : Int32)) hx hb dX7_judge_36 (by decide) ?_
        refine lv_iload_n hx hb dX7_judge_37 rfl (lv_at hl 1 rfl) ?_
        refine lv_imul hx hb dX7_judge_38 ?_
        refine lv_iconst (v := (2 : Int32)) hx hb dX7_judge_39 (by decide) ?_
        refine lv_iadd hx hb dX7_judge_40 ?_
        obtain ⟨hb41, hf⟩ := gd hf
        refine va_iald (cA := cI) (n := 45) (f := x 9) hx hb hK hP 9 0 at_M_0_9 rfl (inb_in hb41) dX7_judge_41 ?_
        refine lv_icmp_eq (tgt := 47) hx hb dX7_judge_42 (by decide) (fun cc42 => ?_) (fun cc42 => ?_)
        · have hf := if_t cc42 hf
          obtain ⟨v3, ev3⟩ : ∃ y : Int32, y = (v1 + (1 : Int32)) := ⟨_, rfl⟩
          have hf := nm_x ev3 hf
          refine lv_iinc (v := v3) (lv' := [(1, .int v3), (0, .ref (a 0))]) hx hb dX7_judge_47 hl (k := 1) rfl (by rw [ev3]; rfl) (by decide) rfl (fun ls hl => ?_)
          refine lv_goto (tgt := 2) hx hb dX7_judge_50 (by decide) ?_
          exact ih2 v3 _ _ _ hP hD hS (lv_sub hl [1, 0] rfl) hf
        · have hf := if_f cc42 hf
          refine lv_iload_n hx hb dX7_judge_45 rfl (lv_at hl 1 rfl) ?_
          exact W.iret (v := v1) hx hb hr (fun t ht hW => ⟨⟨v1, (), rfl, Option.some.inj hf, by rw [ht]; exact hP, hD⟩, hS.F ht⟩) hS.2.2 dX7_judge_46
  exact L2 FU (0 : Int32) _ _ _ hP hD hS (lv_sub hl [1, 0] rfl) hf
def f_X7_seed (x : HC) (p1 : Int32) : Option (Int32 × HC) := (if 0 ≤ p1 then (if inb (46 : Int32) 141 then nm (x 1 (Int32.toNatClampNeg (46 : Int32))) (fun (v1 : Int32) => (if inb (46 : Int32) 141 then nm (sa x 1 (46 : Int32) p1) (fun (X2 : HC) => some (v1, X2)) else none)) else none) else some ((-1000000002 : Int32), x))
abbrev RM_X7_seed : Room := { frames := 0, cells := 0, slots := 0, locals := 0 }
set_option maxHeartbeats 4000000 in
set_option maxRecDepth 100000 in
theorem c_X7_seed (l : Launch) (D : va_G) (cI cZ : ClassId) (a : Nat → Nat) (x : HC) (p1 : Int32) (sz : Nat) {r : Int32 × HC} (hf : f_X7_seed x p1 = some r) : Met l yX7_seed (wM yX7_seed cX7_seed 3 (some .int)) RM_X7_seed (va_Pc [.ref (a 0), .int p1] (pre D cI cZ (kM cI cZ a x) sz)) (QI D (va_A (kM cI cZ a x) sz) (fun (u : HC) => (kM cI cZ a u)) r) 0 0 (va_A (kM cI cZ a x) sz) := by
  unfold f_X7_seed at hf
  refine Met.ofW (cc := cX7_seed) (maxL := 3) (ret := (some .int)) (by decide) rfl ?_
  intro p e s m args below meth c s₁ B hml hv
  obtain ⟨rfl, hsz, hP, hK, hD0, hnw⟩ := hv
  have hx := B.exec
  have hb := B.bytes
  have hr := B.returns
  have hts := atoms_spec (ws := wM yX7_seed cX7_seed 3 (some .int)) B.pre
  have hG : ∀ w ∈ GW, w.before (([.ref (a 0), .int p1] : List Value).toArray) s = true := fun w h => hts w (List.mem_cons_of_mem _ h)
  have hown : s.vm.findClass RX7 = some m.cls := findClass_of_methodNamed B.named
  have hlocks := B.notSynchronized
  subst hsz
  have hD := hD0.self (sz := s.heap.size)
  generalize hAe : va_A (kM cI cZ a x) s.heap.size = A at hD ⊢
  have hA : ∀ q : Nat, s.heap.size ≤ q → A q := fun q h => by rw [← hAe]; exact Or.inr h
  have hS : va_S A s.heap s.heap [] := va_S.rf
  have hl := lv_entry ([.ref (a 0), .int p1]) (n := 3) (Nat.le_of_ble_eq_true rfl)
  rw [lg_entry_eq]
  generalize (lg_sl ([.ref (a 0), .int p1]) ++ List.replicate (3 - (lg_sl ([.ref (a 0), .int p1])).length) Slot.unset).toArray = ls at hl ⊢
  have hl : lv_has ls 3 [(0, .ref (a 0)), (1, .int p1)] := hl
  show W p l e RM_X7_seed s m (([.ref (a 0), .int p1] : List Value).toArray) below meth c s.heap [] 0 0 (MQ below (QI D A (fun (u : HC) => (kM cI cZ a u)) r) (([.ref (a 0), .int p1] : List Value).toArray) s 0 0 A) (F0 m 0 ls [])
  refine lv_iload_n hx hb dX7_seed_0 rfl (lv_at hl 1 rfl) ?_
  refine lv_if_ge (tgt := 7) hx hb dX7_seed_1 (by decide) (fun cc1 => ?_) (fun cc1 => ?_)
  · have hf := if_t cc1 hf
    refine lv_aload_n hx hb dX7_seed_7 rfl (lv_at hl 0 rfl) ?_
    refine va_get (D := D) (ci := 7) (v := .ref (a 1)) (C := RX7) (T := TX7) (N := 32) hx hb hG inG7 hown hK hP 0 at_M_0_0 rfl 0 (by decide) (hG _ g_564) (fun _ h9 => h9) rfl dX7_seed_8 ?_
    refine lv_bipush (v := (46 : Int32)) hx hb dX7_seed_11 (by decide) ?_
    obtain ⟨hb13, hf⟩ := gd hf
    refine va_iald (cA := cI) (n := 141) (f := x 1) hx hb hK hP 1 0 at_M_0_1 rfl (inb_in hb13) dX7_seed_13 ?_
    refine lv_topi (fun v1 ev1 => ?_)
    have hf := nm_x ev1 hf
    refine lv_istore_n (lv' := [(2, .int v1), (0, .ref (a 0)), (1, .int p1)]) hx hb dX7_seed_14 rfl hl (by decide) rfl (fun ls hl => ?_)
    refine lv_aload_n hx hb dX7_seed_15 rfl (lv_at hl 1 rfl) ?_
    refine va_get (D := D) (ci := 7) (v := .ref (a 1)) (C := RX7) (T := TX7) (N := 32) hx hb hG inG7 hown hK hP 0 at_M_0_0 rfl 0 (by decide) (hG _ g_564) (fun _ h9 => h9) rfl dX7_seed_16 ?_
    refine lv_bipush (v := (46 : Int32)) hx hb dX7_seed_19 (by decide) ?_
    refine lv_iload_n hx hb dX7_seed_21 rfl (lv_at hl 2 rfl) ?_
    obtain ⟨hb22, hf⟩ := gd hf
    refine va_iast (cA := cI) (n := 141) (f := x 1) hx hb hK hP hD hS 1 0 at_M_0_1 rfl (inb_in hb22) dX7_seed_22 (fun H locs hP hD hS => ?_)
    obtain ⟨X2, eX2⟩ : ∃ y : HC, y = (sa x 1 (46 : Int32) p1) := ⟨_, rfl⟩
    have hf := nm_x eX2 hf
    have hP := wP (sa_M_0_1.trans (congrArg (fun z : HC => (kM cI cZ a z)) eX2.symm)) hP
    have hD := wD (sa_M_0_1.trans (congrArg (fun z : HC => (kM cI cZ a z)) eX2.symm)) hD
    refine lv_iload_n hx hb dX7_seed_23 rfl (lv_at hl 0 rfl) ?_
    exact W.iret (v := v1) hx hb hr (fun t ht hW => ⟨⟨v1, X2, rfl, ⟨pr_1 hf, pr_2 hf⟩, by rw [ht]; exact hP, hD⟩, hS.F ht⟩) hS.2.2 dX7_seed_24
  · have hf := if_f cc1 hf
    refine lv_ldc hx hb hown (hG _ g_605) dX7_seed_4 ?_
    exact W.iret (v := (-1000000002 : Int32)) hx hb hr (fun t ht hW => ⟨⟨(-1000000002 : Int32), x, rfl, ⟨pr_1 hf, pr_2 hf⟩, by rw [ht]; exact hP, hD⟩, hS.F ht⟩) hS.2.2 dX7_seed_6
def f_X7_copyRow_b2 (p1 : Int32) (p2 : Int32) (rc2 : Int32 → HC → Option (HC)) (v1 : Int32) (X2 : HC) : Option (HC) := (if (47 : Int32) ≤ v1 then some X2 else (if inb (p1 + v1) 141 then (if inb (p2 + v1) 141 then nm (sa X2 1 (p2 + v1) (X2 1 (Int32.toNatClampNeg (p1 + v1)))) (fun (X3 : HC) => nm (v1 + (1 : Int32)) (fun (v4 : Int32) => rc2 v4 X3)) else none) else none))
def f_X7_copyRow (x : HC) (p1 : Int32) (p2 : Int32) : Option (HC) := lp (fun _ _ => none : Int32 → HC → Option (HC)) (f_X7_copyRow_b2 p1 p2) FU (0 : Int32) x
abbrev RM_X7_copyRow : Room := { frames := 0, cells := 0, slots := 0, locals := 0 }
set_option maxHeartbeats 4000000 in
set_option maxRecDepth 100000 in
theorem c_X7_copyRow (l : Launch) (D : va_G) (cI cZ : ClassId) (a : Nat → Nat) (x : HC) (p1 : Int32) (p2 : Int32) (sz : Nat) {r : HC} (hf : f_X7_copyRow x p1 p2 = some r) : Met l yX7_copyRow (wM yX7_copyRow cX7_copyRow 4 none) RM_X7_copyRow (va_Pc [.ref (a 0), .int p1, .int p2] (pre D cI cZ (kM cI cZ a x) sz)) (QV D (va_A (kM cI cZ a x) sz) (fun (u : HC) => (kM cI cZ a u)) r) 0 0 (va_A (kM cI cZ a x) sz) := by
  unfold f_X7_copyRow at hf
  refine Met.ofW (cc := cX7_copyRow) (maxL := 4) (ret := none) (by decide) rfl ?_
  intro p e s m args below meth c s₁ B hml hv
  obtain ⟨rfl, hsz, hP, hK, hD0, hnw⟩ := hv
  have hx := B.exec
  have hb := B.bytes
  have hr := B.returns
  have hts := atoms_spec (ws := wM yX7_copyRow cX7_copyRow 4 none) B.pre
  have hG : ∀ w ∈ GW, w.before (([.ref (a 0), .int p1, .int p2] : List Value).toArray) s = true := fun w h => hts w (List.mem_cons_of_mem _ h)
  have hown : s.vm.findClass RX7 = some m.cls := findClass_of_methodNamed B.named
  have hlocks := B.notSynchronized
  subst hsz
  have hD := hD0.self (sz := s.heap.size)
  generalize hAe : va_A (kM cI cZ a x) s.heap.size = A at hD ⊢
  have hA : ∀ q : Nat, s.heap.size ≤ q → A q := fun q h => by rw [← hAe]; exact Or.inr h
  have hS : va_S A s.heap s.heap [] := va_S.rf
  have hl := lv_entry ([.ref (a 0), .int p1, .int p2]) (n := 4) (Nat.le_of_ble_eq_true rfl)
  rw [lg_entry_eq]
  generalize (lg_sl ([.ref (a 0), .int p1, .int p2]) ++ List.replicate (4 - (lg_sl ([.ref (a 0), .int p1, .int p2])).length) Slot.unset).toArray = ls at hl ⊢
  have hl : lv_has ls 4 [(0, .ref (a 0)), (1, .int p1), (2, .int p2)] := hl
  show W p l e RM_X7_copyRow s m (([.ref (a 0), .int p1, .int p2] : List Value).toArray) below meth c s.heap [] 0 0 (MQ below (QV D A (fun (u : HC) => (kM cI cZ a u)) r) (([.ref (a 0), .int p1, .int p2] : List Value).toArray) s 0 0 A) (F0 m 0 ls [])
  refine lv_iconst (v := (0 : Int32)) hx hb dX7_copyRow_0 (by decide) ?_
  refine lv_istore_n (lv' := [(3, .int (0 : Int32)), (0, .ref (a 0)), (1, .int p1), (2, .int p2)]) hx hb dX7_copyRow_1 rfl hl (by decide) rfl (fun ls hl => ?_)
  have L2 : ∀ (n : Nat) (v1 : Int32) (X2 : HC) (H : Heap) (locs : List Loc) (ls : Array Slot), va_P D vwCl (kM cI cZ a X2) H → va_D A (kM cI cZ a X2) → va_S A s.heap H locs → lv_has ls 4 [(0, .ref (a 0)), (1, .int p1), (2, .int p2), (3, .int v1)] → lp (fun _ _ => none : Int32 → HC → Option (HC)) (f_X7_copyRow_b2 p1 p2) n v1 X2 = some r → W p l e RM_X7_copyRow s m (([.ref (a 0), .int p1, .int p2] : List Value).toArray) below meth c H locs 0 0 (MQ below (QV D A (fun (u : HC) => (kM cI cZ a u)) r) (([.ref (a 0), .int p1, .int p2] : List Value).toArray) s 0 0 A) (F0 m 2 ls []) := by
    intro n
    induction n with
    | zero => intro v1 X2 H locs ls _ _ _ _ hf; cases (show (none : Option (HC)) = some r from hf)
    | succ n ih2 =>
      intro v1 X2 H locs ls hP hD hS hl hf
      have hf : (f_X7_copyRow_b2 p1 p2) (lp (fun _ _ => none : Int32 → HC → Option (HC)) (f_X7_copyRow_b2 p1 p2) n) v1 X2 = some r := hf
      generalize lp (fun _ _ => none : Int32 → HC → Option (HC)) (f_X7_copyRow_b2 p1 p2) n = rc2 at ih2 hf
      unfold f_X7_copyRow_b2 at hf
      refine lv_iload_n hx hb dX7_copyRow_2 rfl (lv_at hl 3 rfl) ?_
      refine lv_bipush (v := (47 : Int32)) hx hb dX7_copyRow_3 (by decide) ?_
      refine lv_icmp_ge (tgt := 30) hx hb dX7_copyRow_5 (by decide) (fun cc5 => ?_) (fun cc5 => ?_)
      · have hf := if_t cc5 hf
        exact W.vret hx hb hr (fun t ht hW => ⟨⟨X2, rfl, Option.some.inj hf, by rw [ht]; exact hP, hD⟩, hS.F ht⟩) hS.2.2 dX7_copyRow_30
      · have hf := if_f cc5 hf
        refine lv_aload_n hx hb dX7_copyRow_8 rfl (lv_at hl 0 rfl) ?_
        refine va_get (D := D) (ci := 7) (v := .ref (a 1)) (C := RX7) (T := TX7) (N := 32) hx hb hG inG7 hown hK hP 0 at_M_0_0 rfl 0 (by decide) (hG _ g_564) (fun _ h9 => h9) rfl dX7_copyRow_9 ?_
        refine lv_iload_n hx hb dX7_copyRow_12 rfl (lv_at hl 2 rfl) ?_
        refine lv_iload_n hx hb dX7_copyRow_13 rfl (lv_at hl 3 rfl) ?_
        refine lv_iadd hx hb dX7_copyRow_14 ?_
        refine lv_aload_n hx hb dX7_copyRow_15 rfl (lv_at hl 0 rfl) ?_
        refine va_get (D := D) (ci := 7) (v := .ref (a 1)) (C := RX7) (T := TX7) (N := 32) hx hb hG inG7 hown hK hP 0 at_M_0_0 rfl 0 (by decide) (hG _ g_564) (fun _ h9 => h9) rfl dX7_copyRow_16 ?_
        refine lv_iload_n hx hb dX7_copyRow_19 rfl (lv_at hl 1 rfl) ?_
        refine lv_iload_n hx hb dX7_copyRow_20 rfl (lv_at hl 3 rfl) ?_
        refine lv_iadd hx hb dX7_copyRow_21 ?_
        obtain ⟨hb22, hf⟩ := gd hf
        refine va_iald (cA := cI) (n := 141) (f := X2 1) hx hb hK hP 1 0 at_M_0_1 rfl (inb_in hb22) dX7_copyRow_22 ?_
        obtain ⟨hb23, hf⟩ := gd hf
        refine va_iast (cA := cI) (n := 141) (f := X2 1) hx hb hK hP hD hS 1 0 at_M_0_1 rfl (inb_in hb23) dX7_copyRow_23 (fun H locs hP hD hS => ?_)
        obtain ⟨X3, eX3⟩ : ∃ y : HC, y = (sa X2 1 (p2 + v1) (X2 1 (Int32.toNatClampNeg (p1 + v1)))) := ⟨_, rfl⟩
        have hf := nm_x eX3 hf
        have hP := wP (sa_M_0_1.trans (congrArg (fun z : HC => (kM cI cZ a z)) eX3.symm)) hP
        have hD := wD (sa_M_0_1.trans (congrArg (fun z : HC => (kM cI cZ a z)) eX3.symm)) hD
        obtain ⟨v4, ev4⟩ : ∃ y : Int32, y = (v1 + (1 : Int32)) := ⟨_, rfl⟩
        have hf := nm_x ev4 hf
        refine lv_iinc (v := v4) (lv' := [(3, .int v4), (0, .ref (a 0)), (1, .int p1), (2, .int p2)]) hx hb dX7_copyRow_24 hl (k := 3) rfl (by rw [ev4]; rfl) (by decide) rfl (fun ls hl => ?_)
        refine lv_goto (tgt := 2) hx hb dX7_copyRow_27 (by decide) ?_
        exact ih2 v4 X3 _ _ _ hP hD hS (lv_sub hl [1, 2, 3, 0] rfl) hf
  exact L2 FU (0 : Int32) x _ _ _ hP hD hS (lv_sub hl [1, 2, 3, 0] rfl) hf
def f_X7_keep (x : HC) (p1 : Int32) : Option (Int32 × HC) := bd (f_X7_in (Int32.toInt64 p1) (0 : Int64) (1 : Int64)) (fun (q1 : Int32) => (if q1 = 0 then some ((-1000000001 : Int32), x) else bd (f_X7_copyRow x (0 : Int32) ((47 : Int32) * ((1 : Int32) + p1))) (fun (q2 : HC) => (if inb p1 2 then nm (sa q2 2 p1 (1 : Int32)) (fun (X3 : HC) => some ((1 : Int32), X3)) else none))))
abbrev RM_X7_keep : Room := { frames := 1, cells := 0, slots := 0, locals := 25 }
set_option maxHeartbeats 4000000 in
set_option maxRecDepth 100000 in
theorem c_X7_keep (l : Launch) (D : va_G) (cI cZ : ClassId) (a : Nat → Nat) (x : HC) (p1 : Int32) (sz : Nat) {r : Int32 × HC} (hf : f_X7_keep x p1 = some r) : Met l yX7_keep (wM yX7_keep cX7_keep 2 (some .int)) RM_X7_keep (va_Pc [.ref (a 0), .int p1] (pre D cI cZ (kM cI cZ a x) sz)) (QI D (va_A (kM cI cZ a x) sz) (fun (u : HC) => (kM cI cZ a u)) r) 0 0 (va_A (kM cI cZ a x) sz) := by
  unfold f_X7_keep at hf
  refine Met.ofW (cc := cX7_keep) (maxL := 2) (ret := (some .int)) (by decide) rfl ?_
  intro p e s m args below meth c s₁ B hml hv
  obtain ⟨rfl, hsz, hP, hK, hD0, hnw⟩ := hv
  have hx := B.exec
  have hb := B.bytes
  have hr := B.returns
  have hts := atoms_spec (ws := wM yX7_keep cX7_keep 2 (some .int)) B.pre
  have hG : ∀ w ∈ GW, w.before (([.ref (a 0), .int p1] : List Value).toArray) s = true := fun w h => hts w (List.mem_cons_of_mem _ h)
  have hown : s.vm.findClass RX7 = some m.cls := findClass_of_methodNamed B.named
  have hlocks := B.notSynchronized
  subst hsz
  have hD := hD0.self (sz := s.heap.size)
  generalize hAe : va_A (kM cI cZ a x) s.heap.size = A at hD ⊢
  have hA : ∀ q : Nat, s.heap.size ≤ q → A q := fun q h => by rw [← hAe]; exact Or.inr h
  have hS : va_S A s.heap s.heap [] := va_S.rf
  have hl := lv_entry ([.ref (a 0), .int p1]) (n := 2) (Nat.le_of_ble_eq_true rfl)
  rw [lg_entry_eq]
  generalize (lg_sl ([.ref (a 0), .int p1]) ++ List.replicate (2 - (lg_sl ([.ref (a 0), .int p1])).length) Slot.unset).toArray = ls at hl ⊢
  have hl : lv_has ls 2 [(0, .ref (a 0)), (1, .int p1)] := hl
  show W p l e RM_X7_keep s m (([.ref (a 0), .int p1] : List Value).toArray) below meth c s.heap [] 0 0 (MQ below (QI D A (fun (u : HC) => (kM cI cZ a u)) r) (([.ref (a 0), .int p1] : List Value).toArray) s 0 0 A) (F0 m 0 ls [])
  refine lv_iload_n hx hb dX7_keep_0 rfl (lv_at hl 1 rfl) ?_
  refine lv_i2l hx hb dX7_keep_1 rfl ?_
  refine lv_lconst (v := (0 : Int64)) hx hb dX7_keep_2 (by decide) ?_
  refine lv_lconst (v := (1 : Int64)) hx hb dX7_keep_3 (by decide) ?_
  obtain ⟨q1, hq1, hf⟩ := bd_x hf
  have hFc := va_free (wc := []) hD hS hA [] rfl
  refine va_calli (va_runS (As := [.long (Int32.toInt64 p1), .long (0 : Int64), .long (1 : Int64)]) (rest := []) ⟨hx, hb, hml, hown, hG⟩ (c_X7_in l D cI cZ (Int32.toInt64 p1) (0 : Int64) (1 : Int64) s.heap.size hq1) (cwS 3 hG (gS g_602 g_603 g_77 g_604) rfl rfl rfl (by decide +kernel) ⟨Nat.le_of_ble_eq_true rfl, Nat.le_of_ble_eq_true rfl⟩) ⟨pre_blind, fun U hU hW => ⟨rfl, pre_of P_nil hK D_nil hnw hU hW⟩⟩ rfl rfl hl.1 rfl (lv_room (Nat.le_of_ble_eq_true rfl)) dX7_keep_4 ⟨Nat.le_of_ble_eq_true rfl, Nat.le_of_ble_eq_true rfl⟩) hS (fun q _ h => hFc q h) hFc (fun v u t H locs ht hvm hw hB hz1 hk1 hS => ?_)
  have hw := hw.symm; subst hw
  obtain ⟨hP1, hD1⟩ := hB
  rw [ht] at hP1
  obtain ⟨hP, hD⟩ := back hP hD [] rfl rfl hk1 hFc hP1 hD1
  refine lv_if_ne (tgt := 13) hx hb dX7_keep_7 (by decide) (fun cc7 => ?_) (fun cc7 => ?_)
  · have hf := if_f cc7 hf
    refine lv_aload_n hx hb dX7_keep_13 rfl (lv_at hl 0 rfl) ?_
    refine lv_iconst (v := (0 : Int32)) hx hb dX7_keep_14 (by decide) ?_
    refine lv_bipush (v := (47 : Int32)) hx hb dX7_keep_15 (by decide) ?_
    refine lv_iconst (v := (1 : Int32)) hx hb dX7_keep_17 (by decide) ?_
    refine lv_iload_n hx hb dX7_keep_18 rfl (lv_at hl 1 rfl) ?_
    refine lv_iadd hx hb dX7_keep_19 ?_
    refine lv_imul hx hb dX7_keep_20 ?_
    obtain ⟨q2, hq2, hf⟩ := bd_x hf
    have hFc := freeS hD hS hA
    refine va_callv (va_runV (As := [.int (0 : Int32), .int ((47 : Int32) * ((1 : Int32) + p1))]) (rest := []) ⟨hx, hb, hml, hown, hG⟩ (c_X7_copyRow l D cI cZ a x (0 : Int32) ((47 : Int32) * ((1 : Int32) + p1)) H.size hq2) (cwV 2 hG (gV g_844 g_845 g_68 g_77 g_846) rfl rfl rfl (by decide +kernel) ⟨Nat.le_of_ble_eq_true rfl, Nat.le_of_ble_eq_true rfl⟩) ⟨pre_blind, va_recv hK hP (ci := 7) (q0 := 0) rfl rfl, fun U hU hW => ⟨rfl, pre_of hP hK hD hnw hU hW⟩⟩ rfl rfl hl.1 rfl (lv_room (Nat.le_of_ble_eq_true rfl)) dX7_keep_21 ⟨Nat.le_of_ble_eq_true rfl, Nat.le_of_ble_eq_true rfl⟩) hS (fun q _ h => hFc q h) hFc (fun u t H locs ht hvm hw hB hz1 hk1 hS => ?_)
    have hw := hw.symm; subst hw
    obtain ⟨hP1, hD1⟩ := hB
    rw [ht] at hP1
    have hP := hP1
    have hD := hD1.weaken (fun _ q _ h => hFc q.1 h)
    refine lv_aload_n hx hb dX7_keep_24 rfl (lv_at hl 0 rfl) ?_
    refine va_get (D := D) (ci := 7) (v := .ref (a 2)) (C := RX7) (T := TX7) (N := 32) hx hb hG inG7 hown hK hP 0 at_M_0_0 rfl 1 (by decide) (hG _ g_565) (fun _ h9 => h9) rfl dX7_keep_25 ?_
    refine lv_iload_n hx hb dX7_keep_28 rfl (lv_at hl 1 rfl) ?_
    refine lv_iconst (v := (1 : Int32)) hx hb dX7_keep_29 (by decide) ?_
    obtain ⟨hb30, hf⟩ := gd hf
    refine va_zast (cA := cZ) (n := 2) (f := q2 2) hx hb hK hP hD hS 2 1 at_M_0_2 rfl (inb_in hb30) dX7_keep_30 (fun H locs hP hD hS => ?_)
    obtain ⟨X3, eX3⟩ : ∃ y : HC, y = (sa q2 2 p1 (1 : Int32)) := ⟨_, rfl⟩
    have hf := nm_x eX3 hf
    have hP := wP (sa_M_0_2.trans (congrArg (fun z : HC => (kM cI cZ a z)) eX3.symm)) hP
    have hD := wD (sa_M_0_2.trans (congrArg (fun z : HC => (kM cI cZ a z)) eX3.symm)) hD
    refine lv_iconst (v := (1 : Int32)) hx hb dX7_keep_31 (by decide) ?_
    exact W.iret (v := (1 : Int32)) hx hb hr (fun t ht hW => ⟨⟨(1 : Int32), X3, rfl, ⟨pr_1 hf, pr_2 hf⟩, by rw [ht]; exact hP, hD⟩, hS.F ht⟩) hS.2.2 dX7_keep_32
  · have hf := if_t cc7 hf
    refine lv_ldc hx hb hown (hG _ g_676) dX7_keep_10 ?_
    exact W.iret (v := (-1000000001 : Int32)) hx hb hr (fun t ht hW => ⟨⟨(-1000000001 : Int32), x, rfl, ⟨pr_1 hf, pr_2 hf⟩, by rw [ht]; exact hP, hD⟩, hS.F ht⟩) hS.2.2 dX7_keep_12
def f_X7_goBack (x : HC) (p1 : Int32) : Option (Int32 × HC) := bd (f_X7_in (Int32.toInt64 p1) (0 : Int64) (1 : Int64)) (fun (q1 : Int32) => (if q1 = 0 then some ((-1000000001 : Int32), x) else (if inb p1 2 then (if (x 2 (Int32.toNatClampNeg p1)) = 0 then some ((-1000000003 : Int32), x) else bd (f_X7_copyRow x ((47 : Int32) * ((1 : Int32) + p1)) (0 : Int32)) (fun (q2 : HC) => some ((1 : Int32), q2))) else none)))
abbrev RM_X7_goBack : Room := { frames := 1, cells := 0, slots := 0, locals := 25 }
set_option maxHeartbeats 4000000 in
set_option maxRecDepth 100000 in
theorem c_X7_goBack (l : Launch) (D : va_G) (cI cZ : ClassId) (a : Nat → Nat) (x : HC) (p1 : Int32) (sz : Nat) {r : Int32 × HC} (hf : f_X7_goBack x p1 = some r) : Met l yX7_goBack (wM yX7_goBack cX7_goBack 2 (some .int)) RM_X7_goBack (va_Pc [.ref (a 0), .int p1] (pre D cI cZ (kM cI cZ a x) sz)) (QI D (va_A (kM cI cZ a x) sz) (fun (u : HC) => (kM cI cZ a u)) r) 0 0 (va_A (kM cI cZ a x) sz) := by
  unfold f_X7_goBack at hf
  refine Met.ofW (cc := cX7_goBack) (maxL := 2) (ret := (some .int)) (by decide) rfl ?_
  intro p e s m args below meth c s₁ B hml hv
  obtain ⟨rfl, hsz, hP, hK, hD0, hnw⟩ := hv
  have hx := B.exec
  have hb := B.bytes
  have hr := B.returns
  have hts := atoms_spec (ws := wM yX7_goBack cX7_goBack 2 (some .int)) B.pre
  have hG : ∀ w ∈ GW, w.before (([.ref (a 0), .int p1] : List Value).toArray) s = true := fun w h => hts w (List.mem_cons_of_mem _ h)
  have hown : s.vm.findClass RX7 = some m.cls := findClass_of_methodNamed B.named
  have hlocks := B.notSynchronized
  subst hsz
  have hD := hD0.self (sz := s.heap.size)
  generalize hAe : va_A (kM cI cZ a x) s.heap.size = A at hD ⊢
  have hA : ∀ q : Nat, s.heap.size ≤ q → A q := fun q h => by rw [← hAe]; exact Or.inr h
  have hS : va_S A s.heap s.heap [] := va_S.rf
  have hl := lv_entry ([.ref (a 0), .int p1]) (n := 2) (Nat.le_of_ble_eq_true rfl)
  rw [lg_entry_eq]
  generalize (lg_sl ([.ref (a 0), .int p1]) ++ List.replicate (2 - (lg_sl ([.ref (a 0), .int p1])).length) Slot.unset).toArray = ls at hl ⊢
  have hl : lv_has ls 2 [(0, .ref (a 0)), (1, .int p1)] := hl
  show W p l e RM_X7_goBack s m (([.ref (a 0), .int p1] : List Value).toArray) below meth c s.heap [] 0 0 (MQ below (QI D A (fun (u : HC) => (kM cI cZ a u)) r) (([.ref (a 0), .int p1] : List Value).toArray) s 0 0 A) (F0 m 0 ls [])
  refine lv_iload_n hx hb dX7_goBack_0 rfl (lv_at hl 1 rfl) ?_
  refine lv_i2l hx hb dX7_goBack_1 rfl ?_
  refine lv_lconst (v := (0 : Int64)) hx hb dX7_goBack_2 (by decide) ?_
  refine lv_lconst (v := (1 : Int64)) hx hb dX7_goBack_3 (by decide) ?_
  obtain ⟨q1, hq1, hf⟩ := bd_x hf
  have hFc := va_free (wc := []) hD hS hA [] rfl
  refine va_calli (va_runS (As := [.long (Int32.toInt64 p1), .long (0 : Int64), .long (1 : Int64)]) (rest := []) ⟨hx, hb, hml, hown, hG⟩ (c_X7_in l D cI cZ (Int32.toInt64 p1) (0 : Int64) (1 : Int64) s.heap.size hq1) (cwS 3 hG (gS g_602 g_603 g_77 g_604) rfl rfl rfl (by decide +kernel) ⟨Nat.le_of_ble_eq_true rfl, Nat.le_of_ble_eq_true rfl⟩) ⟨pre_blind, fun U hU hW => ⟨rfl, pre_of P_nil hK D_nil hnw hU hW⟩⟩ rfl rfl hl.1 rfl (lv_room (Nat.le_of_ble_eq_true rfl)) dX7_goBack_4 ⟨Nat.le_of_ble_eq_true rfl, Nat.le_of_ble_eq_true rfl⟩) hS (fun q _ h => hFc q h) hFc (fun v u t H locs ht hvm hw hB hz1 hk1 hS => ?_)
  have hw := hw.symm; subst hw
  obtain ⟨hP1, hD1⟩ := hB
  rw [ht] at hP1
  obtain ⟨hP, hD⟩ := back hP hD [] rfl rfl hk1 hFc hP1 hD1
  refine lv_if_ne (tgt := 13) hx hb dX7_goBack_7 (by decide) (fun cc7 => ?_) (fun cc7 => ?_)
  · have hf := if_f cc7 hf
    refine lv_aload_n hx hb dX7_goBack_13 rfl (lv_at hl 0 rfl) ?_
    refine va_get (D := D) (ci := 7) (v := .ref (a 2)) (C := RX7) (T := TX7) (N := 32) hx hb hG inG7 hown hK hP 0 at_M_0_0 rfl 1 (by decide) (hG _ g_565) (fun _ h9 => h9) rfl dX7_goBack_14 ?_
    refine lv_iload_n hx hb dX7_goBack_17 rfl (lv_at hl 1 rfl) ?_
    obtain ⟨hb18, hf⟩ := gd hf
    refine va_zald (cA := cZ) (n := 2) (f := x 2) hx hb hK hP 2 1 at_M_0_2 rfl (inb_in hb18) dX7_goBack_18 ?_
    refine lv_if_ne (tgt := 25) hx hb dX7_goBack_19 (by decide) (fun cc19 => ?_) (fun cc19 => ?_)
    · have hf := if_f cc19 hf
      refine lv_aload_n hx hb dX7_goBack_25 rfl (lv_at hl 0 rfl) ?_
      refine lv_bipush (v := (47 : Int32)) hx hb dX7_goBack_26 (by decide) ?_
      refine lv_iconst (v := (1 : Int32)) hx hb dX7_goBack_28 (by decide) ?_
      refine lv_iload_n hx hb dX7_goBack_29 rfl (lv_at hl 1 rfl) ?_
      refine lv_iadd hx hb dX7_goBack_30 ?_
      refine lv_imul hx hb dX7_goBack_31 ?_
      refine lv_iconst (v := (0 : Int32)) hx hb dX7_goBack_32 (by decide) ?_
      obtain ⟨q2, hq2, hf⟩ := bd_x hf
      have hFc := freeS hD hS hA
      refine va_callv (va_runV (As := [.int ((47 : Int32) * ((1 : Int32) + p1)), .int (0 : Int32)]) (rest := []) ⟨hx, hb, hml, hown, hG⟩ (c_X7_copyRow l D cI cZ a x ((47 : Int32) * ((1 : Int32) + p1)) (0 : Int32) H.size hq2) (cwV 2 hG (gV g_844 g_845 g_68 g_77 g_846) rfl rfl rfl (by decide +kernel) ⟨Nat.le_of_ble_eq_true rfl, Nat.le_of_ble_eq_true rfl⟩) ⟨pre_blind, va_recv hK hP (ci := 7) (q0 := 0) rfl rfl, fun U hU hW => ⟨rfl, pre_of hP hK hD hnw hU hW⟩⟩ rfl rfl hl.1 rfl (lv_room (Nat.le_of_ble_eq_true rfl)) dX7_goBack_33 ⟨Nat.le_of_ble_eq_true rfl, Nat.le_of_ble_eq_true rfl⟩) hS (fun q _ h => hFc q h) hFc (fun u t H locs ht hvm hw hB hz1 hk1 hS => ?_)
      have hw := hw.symm; subst hw
      obtain ⟨hP1, hD1⟩ := hB
      rw [ht] at hP1
      have hP := hP1
      have hD := hD1.weaken (fun _ q _ h => hFc q.1 h)
      refine lv_iconst (v := (1 : Int32)) hx hb dX7_goBack_36 (by decide) ?_
      exact W.iret (v := (1 : Int32)) hx hb hr (fun t ht hW => ⟨⟨(1 : Int32), q2, rfl, ⟨pr_1 hf, pr_2 hf⟩, by rw [ht]; exact hP, hD⟩, hS.F ht⟩) hS.2.2 dX7_goBack_37
    · have hf := if_t cc19 hf
      refine lv_ldc hx hb hown (hG _ g_746) dX7_goBack_22 ?_
      exact W.iret (v := (-1000000003 : Int32)) hx hb hr (fun t ht hW => ⟨⟨(-1000000003 : Int32), x, rfl, ⟨pr_1 hf, pr_2 hf⟩, by rw [ht]; exact hP, hD⟩, hS.F ht⟩) hS.2.2 dX7_goBack_24
  · have hf := if_t cc7 hf
    refine lv_ldc hx hb hown (hG _ g_676) dX7_goBack_10 ?_
    exact W.iret (v := (-1000000001 : Int32)) hx hb hr (fun t ht hW => ⟨⟨(-1000000001 : Int32), x, rfl, ⟨pr_1 hf, pr_2 hf⟩, by rw [ht]; exact hP, hD⟩, hS.F ht⟩) hS.2.2 dX7_goBack_12
