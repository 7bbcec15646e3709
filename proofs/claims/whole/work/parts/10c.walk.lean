theorem at_M_0_16 {cI cZ : ClassId} {a : Nat → Nat} {x : HC} : (kM cI cZ a x)[16]? = some (a 16, .inl (cI, 6, .inl (x 16))) := rfl
theorem sa_M_0_16 {cI cZ : ClassId} {a : Nat → Nat} {x : HC} {i v : Int32} : (kM cI cZ a x).set 16 (a 16, .inl (cI, 6, .inl (upd (x 16) i.toNatClampNeg v))) = (kM cI cZ a (sa x 16 i v)) := rfl
def f_X7_doRumour_b125 (p1 : Int32) (v1 : Int32) (rc125 : Int32 → HC → Option (Int32 × HC)) (v4 : Int32) (X5 : HC) : Option (Int32 × HC) := (if (X5 0 5) ≤ v4 then some (v1, X5) else (if inb v4 6 then bd (f_X7_think X5 v4 p1 (X5 16 (Int32.toNatClampNeg v4))) (fun (q6 : HC) => nm (v4 + (1 : Int32)) (fun (v7 : Int32) => rc125 v7 q6)) else none))
def f_X7_doRumour_j115 (rc4 : Int32 → Int32 → HC → Option (Int32 × HC)) (v1 : Int32) (v2 : Int32) (X11 : HC) (v13 : Int32) : Option (Int32 × HC) := nm (v1 + v13) (fun (v14 : Int32) => nm (v2 + (1 : Int32)) (fun (v15 : Int32) => rc4 v14 v15 X11))
def f_X7_doRumour_j87 (v2 : Int32) (rc27 : Int32 → HC → Option (Int32 × HC)) (v10 : Int32) (X11 : HC) (v17 : Int32) : Option (Int32 × HC) := (if inb v2 6 then nm (sa X11 16 v2 v17) (fun (X18 : HC) => nm (v10 + (1 : Int32)) (fun (v19 : Int32) => rc27 v19 X18)) else none)
def f_X7_doRumour_j81 (v2 : Int32) (rc27 : Int32 → HC → Option (Int32 × HC)) (v10 : Int32) (X11 : HC)  : Option (Int32 × HC) := (if inb v2 6 then f_X7_doRumour_j87 v2 rc27 v10 X11 (X11 16 (Int32.toNatClampNeg v2)) else none)
def f_X7_doRumour_b27 (p1 : Int32) (rc4 : Int32 → Int32 → HC → Option (Int32 × HC)) (v1 : Int32) (v2 : Int32) (rc27 : Int32 → HC → Option (Int32 × HC)) (v10 : Int32) (X11 : HC) : Option (Int32 × HC) := (if (X11 0 5) ≤ v10 then (if inb v2 6 then bd (f_X7_thought X11 v2 p1) (fun (q12 : Int32) => (if (X11 16 (Int32.toNatClampNeg v2)) ≤ q12 then f_X7_doRumour_j115 rc4 v1 v2 X11 (0 : Int32) else f_X7_doRumour_j115 rc4 v1 v2 X11 (1 : Int32))) else none) else (if inb v2 6 then bd (f_X7_has (X11 6 (Int32.toNatClampNeg v2)) v10) (fun (q16 : Int32) => (if q16 = 0 then f_X7_doRumour_j81 v2 rc27 v10 X11 else bd (f_X7_thought X11 v10 p1) (fun (q20 : Int32) => (if inb v2 6 then (if q20 ≤ (X11 16 (Int32.toNatClampNeg v2)) then f_X7_doRumour_j81 v2 rc27 v10 X11 else bd (f_X7_thought X11 v10 p1) (fun (q21 : Int32) => f_X7_doRumour_j87 v2 rc27 v10 X11 q21)) else none)))) else none))
def f_X7_doRumour_b4 (p1 : Int32) (rc4 : Int32 → Int32 → HC → Option (Int32 × HC)) (v1 : Int32) (v2 : Int32) (X3 : HC) : Option (Int32 × HC) := (if (X3 0 5) ≤ v2 then lp (fun _ _ => none : Int32 → HC → Option (Int32 × HC)) (f_X7_doRumour_b125 p1 v1) FU (0 : Int32) X3 else bd (f_X7_thought X3 v2 p1) (fun (q8 : Int32) => (if inb v2 6 then nm (sa X3 16 v2 q8) (fun (X9 : HC) => lp (fun _ _ => none : Int32 → HC → Option (Int32 × HC)) (f_X7_doRumour_b27 p1 rc4 v1 v2) FU (0 : Int32) X9) else none)))
def f_X7_doRumour (x : HC) (p1 : Int32) : Option (Int32 × HC) := lp (fun _ _ _ => none : Int32 → Int32 → HC → Option (Int32 × HC)) (f_X7_doRumour_b4 p1) FU (0 : Int32) (0 : Int32) x
abbrev RM_X7_doRumour : Room := { frames := 1, cells := 0, slots := 0, locals := 23 }
set_option maxHeartbeats 4000000 in
set_option maxRecDepth 100000 in
theorem c_X7_doRumour (l : Launch) (D : va_G) (cI cZ : ClassId) (a : Nat → Nat) (x : HC) (p1 : Int32) (sz : Nat) {r : Int32 × HC} (hf : f_X7_doRumour x p1 = some r) : Met l yX7_doRumour (wM yX7_doRumour cX7_doRumour 5 (some .int)) RM_X7_doRumour (va_Pc [.ref (a 0), .int p1] (pre D cI cZ (kM cI cZ a x) sz)) (QI D (va_A (kM cI cZ a x) sz) (fun (u : HC) => (kM cI cZ a u)) r) 0 0 (va_A (kM cI cZ a x) sz) := by
  unfold f_X7_doRumour at hf
  refine Met.ofW (cc := cX7_doRumour) (maxL := 5) (ret := (some .int)) (by decide) rfl ?_
  intro p e s m args below meth c s₁ B hml hv
  obtain ⟨rfl, hsz, hP, hK, hD0, hnw⟩ := hv
  have hx := B.exec
  have hb := B.bytes
  have hr := B.returns
  have hts := atoms_spec (ws := wM yX7_doRumour cX7_doRumour 5 (some .int)) B.pre
  have hG : ∀ w ∈ GW, w.before (([.ref (a 0), .int p1] : List Value).toArray) s = true := fun w h => hts w (List.mem_cons_of_mem _ h)
  have hown : s.vm.findClass RX7 = some m.cls := findClass_of_methodNamed B.named
  have hlocks := B.notSynchronized
  subst hsz
  have hD := hD0.self (sz := s.heap.size)
  generalize hAe : va_A (kM cI cZ a x) s.heap.size = A at hD ⊢
  have hA : ∀ q : Nat, s.heap.size ≤ q → A q := fun q h => by rw [← hAe]; exact Or.inr h
  have hS : va_S A s.heap s.heap [] := va_S.rf
  have hl := lv_entry ([.ref (a 0), .int p1]) (n := 5) (Nat.le_of_ble_eq_true rfl)
  rw [lg_entry_eq]
  generalize (lg_sl ([.ref (a 0), .int p1]) ++ List.replicate (5 - (lg_sl ([.ref (a 0), .int p1])).length) Slot.unset).toArray = ls at hl ⊢
  have hl : lv_has ls 5 [(0, .ref (a 0)), (1, .int p1)] := hl
  show W p l e RM_X7_doRumour s m (([.ref (a 0), .int p1] : List Value).toArray) below meth c s.heap [] 0 0 (MQ below (QI D A (fun (u : HC) => (kM cI cZ a u)) r) (([.ref (a 0), .int p1] : List Value).toArray) s 0 0 A) (F0 m 0 ls [])
  refine lv_iconst (v := (0 : Int32)) hx hb dX7_doRumour_0 (by decide) ?_
  refine lv_istore_n (lv' := [(2, .int (0 : Int32)), (0, .ref (a 0)), (1, .int p1)]) hx hb dX7_doRumour_1 rfl hl (by decide) rfl (fun ls hl => ?_)
  refine lv_iconst (v := (0 : Int32)) hx hb dX7_doRumour_2 (by decide) ?_
  refine lv_istore_n (lv' := [(3, .int (0 : Int32)), (2, .int (0 : Int32)), (0, .ref (a 0)), (1, .int p1)]) hx hb dX7_doRumour_3 rfl hl (by decide) rfl (fun ls hl => ?_)
  have L4 : ∀ (n : Nat) (v1 : Int32) (v2 : Int32) (X3 : HC) (H : Heap) (locs : List Loc) (ls : Array Slot), va_P D vwCl (kM cI cZ a X3) H → va_D A (kM cI cZ a X3) → va_S A s.heap H locs → lv_has ls 5 [(0, .ref (a 0)), (1, .int p1), (2, .int v1), (3, .int v2)] → lp (fun _ _ _ => none : Int32 → Int32 → HC → Option (Int32 × HC)) (f_X7_doRumour_b4 p1) n v1 v2 X3 = some r → W p l e RM_X7_doRumour s m (([.ref (a 0), .int p1] : List Value).toArray) below meth c H locs 0 0 (MQ below (QI D A (fun (u : HC) => (kM cI cZ a u)) r) (([.ref (a 0), .int p1] : List Value).toArray) s 0 0 A) (F0 m 4 ls []) := by
    intro n
    induction n with
    | zero => intro v1 v2 X3 H locs ls _ _ _ _ hf; cases (show (none : Option (Int32 × HC)) = some r from hf)
    | succ n ih4 =>
      intro v1 v2 X3 H locs ls hP hD hS hl hf
      have hf : (f_X7_doRumour_b4 p1) (lp (fun _ _ _ => none : Int32 → Int32 → HC → Option (Int32 × HC)) (f_X7_doRumour_b4 p1) n) v1 v2 X3 = some r := hf
      generalize lp (fun _ _ _ => none : Int32 → Int32 → HC → Option (Int32 × HC)) (f_X7_doRumour_b4 p1) n = rc4 at ih4 hf
      unfold f_X7_doRumour_b4 at hf
      refine lv_iload_n hx hb dX7_doRumour_4 rfl (lv_at hl 3 rfl) ?_
      refine lv_aload_n hx hb dX7_doRumour_5 rfl (lv_at hl 0 rfl) ?_
      refine va_get (D := D) (ci := 7) (v := .int (X3 0 5)) (C := RX7) (T := TX7) (N := 32) hx hb hG inG7 hown hK hP 0 at_M_0_0 rfl 5 (by decide) (hG _ g_569) (fun _ h9 => h9) rfl dX7_doRumour_6 ?_
      refine lv_icmp_ge (tgt := 123) hx hb dX7_doRumour_9 (by decide) (fun cc9 => ?_) (fun cc9 => ?_)
      · have hf := if_t cc9 hf
        refine lv_iconst (v := (0 : Int32)) hx hb dX7_doRumour_123 (by decide) ?_
        refine lv_istore_n (lv' := [(3, .int (0 : Int32)), (0, .ref (a 0)), (1, .int p1), (2, .int v1)]) hx hb dX7_doRumour_124 rfl hl (by decide) rfl (fun ls hl => ?_)
        have L125 : ∀ (n : Nat) (v4 : Int32) (X5 : HC) (H : Heap) (locs : List Loc) (ls : Array Slot), va_P D vwCl (kM cI cZ a X5) H → va_D A (kM cI cZ a X5) → va_S A s.heap H locs → lv_has ls 5 [(0, .ref (a 0)), (1, .int p1), (2, .int v1), (3, .int v4)] → lp (fun _ _ => none : Int32 → HC → Option (Int32 × HC)) (f_X7_doRumour_b125 p1 v1) n v4 X5 = some r → W p l e RM_X7_doRumour s m (([.ref (a 0), .int p1] : List Value).toArray) below meth c H locs 0 0 (MQ below (QI D A (fun (u : HC) => (kM cI cZ a u)) r) (([.ref (a 0), .int p1] : List Value).toArray) s 0 0 A) (F0 m 125 ls []) := by
          intro n
          induction n with
          | zero => intro v4 X5 H locs ls _ _ _ _ hf; cases (show (none : Option (Int32 × HC)) = some r from hf)
          | succ n ih125 =>
            intro v4 X5 H locs ls hP hD hS hl hf
            have hf : (f_X7_doRumour_b125 p1 v1) (lp (fun _ _ => none : Int32 → HC → Option (Int32 × HC)) (f_X7_doRumour_b125 p1 v1) n) v4 X5 = some r := hf
            generalize lp (fun _ _ => none : Int32 → HC → Option (Int32 × HC)) (f_X7_doRumour_b125 p1 v1) n = rc125 at ih125 hf
            unfold f_X7_doRumour_b125 at hf
            refine lv_iload_n hx hb dX7_doRumour_125 rfl (lv_at hl 3 rfl) ?_
            refine lv_aload_n hx hb dX7_doRumour_126 rfl (lv_at hl 0 rfl) ?_
            refine va_get (D := D) (ci := 7) (v := .int (X5 0 5)) (C := RX7) (T := TX7) (N := 32) hx hb hG inG7 hown hK hP 0 at_M_0_0 rfl 5 (by decide) (hG _ g_569) (fun _ h9 => h9) rfl dX7_doRumour_127 ?_
            refine lv_icmp_ge (tgt := 151) hx hb dX7_doRumour_130 (by decide) (fun cc130 => ?_) (fun cc130 => ?_)
            · have hf := if_t cc130 hf
              refine lv_iload_n hx hb dX7_doRumour_151 rfl (lv_at hl 2 rfl) ?_
              exact W.iret (v := v1) hx hb hr (fun t ht hW => ⟨⟨v1, X5, rfl, ⟨pr_1 hf, pr_2 hf⟩, by rw [ht]; exact hP, hD⟩, hS.F ht⟩) hS.2.2 dX7_doRumour_152
            · have hf := if_f cc130 hf
              refine lv_aload_n hx hb dX7_doRumour_133 rfl (lv_at hl 0 rfl) ?_
              refine lv_iload_n hx hb dX7_doRumour_134 rfl (lv_at hl 3 rfl) ?_
              refine lv_iload_n hx hb dX7_doRumour_135 rfl (lv_at hl 1 rfl) ?_
              refine lv_aload_n hx hb dX7_doRumour_136 rfl (lv_at hl 0 rfl) ?_
              refine va_get (D := D) (ci := 7) (v := .ref (a 16)) (C := RX7) (T := TX7) (N := 32) hx hb hG inG7 hown hK hP 0 at_M_0_0 rfl 30 (by decide) (hG _ g_594) (fun _ h9 => h9) rfl dX7_doRumour_137 ?_
              refine lv_iload_n hx hb dX7_doRumour_140 rfl (lv_at hl 3 rfl) ?_
              obtain ⟨hb141, hf⟩ := gd hf
              refine va_iald (cA := cI) (n := 6) (f := X5 16) hx hb hK hP 16 0 at_M_0_16 rfl (inb_in hb141) dX7_doRumour_141 ?_
              obtain ⟨q6, hq6, hf⟩ := bd_x hf
              have hFc := freeS hD hS hA
              refine va_callv (va_runV (As := [.int v4, .int p1, .int (X5 16 (Int32.toNatClampNeg v4))]) (rest := []) ⟨hx, hb, hml, hown, hG⟩ (c_X7_think l D cI cZ a X5 v4 p1 (X5 16 (Int32.toNatClampNeg v4)) H.size hq6) (cwV 3 hG (gV g_720 g_721 g_55 g_77 g_722) rfl rfl rfl (by decide +kernel) ⟨Nat.le_of_ble_eq_true rfl, Nat.le_of_ble_eq_true rfl⟩) ⟨pre_blind, va_recv hK hP (ci := 7) (q0 := 0) rfl rfl, fun U hU hW => ⟨rfl, pre_of hP hK hD hnw hU hW⟩⟩ rfl rfl hl.1 rfl (lv_room (Nat.le_of_ble_eq_true rfl)) dX7_doRumour_142 ⟨Nat.le_of_ble_eq_true rfl, Nat.le_of_ble_eq_true rfl⟩) hS (fun q _ h => hFc q h) hFc (fun u t H locs ht hvm hw hB hz1 hk1 hS => ?_)
              have hw := hw.symm; subst hw
              obtain ⟨hP1, hD1⟩ := hB
              rw [ht] at hP1
              have hP := hP1
              have hD := hD1.weaken (fun _ q _ h => hFc q.1 h)
              obtain ⟨v7, ev7⟩ : ∃ y : Int32, y = (v4 + (1 : Int32)) := ⟨_, rfl⟩
              have hf := nm_x ev7 hf
              refine lv_iinc (v := v7) (lv' := [(3, .int v7), (0, .ref (a 0)), (1, .int p1), (2, .int v1)]) hx hb dX7_doRumour_145 hl (k := 3) rfl (by rw [ev7]; rfl) (by decide) rfl (fun ls hl => ?_)
              refine lv_goto (tgt := 125) hx hb dX7_doRumour_148 (by decide) ?_
              exact ih125 v7 q6 _ _ _ hP hD hS (lv_sub hl [1, 2, 3, 0] rfl) hf
        exact L125 FU (0 : Int32) X3 _ _ _ hP hD hS (lv_sub hl [1, 2, 3, 0] rfl) hf
      · have hf := if_f cc9 hf
        refine lv_aload_n hx hb dX7_doRumour_12 rfl (lv_at hl 0 rfl) ?_
        refine va_get (D := D) (ci := 7) (v := .ref (a 16)) (C := RX7) (T := TX7) (N := 32) hx hb hG inG7 hown hK hP 0 at_M_0_0 rfl 30 (by decide) (hG _ g_594) (fun _ h9 => h9) rfl dX7_doRumour_13 ?_
        refine lv_iload_n hx hb dX7_doRumour_16 rfl (lv_at hl 3 rfl) ?_
        refine lv_aload_n hx hb dX7_doRumour_17 rfl (lv_at hl 0 rfl) ?_
        refine lv_iload_n hx hb dX7_doRumour_18 rfl (lv_at hl 3 rfl) ?_
        refine lv_iload_n hx hb dX7_doRumour_19 rfl (lv_at hl 1 rfl) ?_
        obtain ⟨q8, hq8, hf⟩ := bd_x hf
        have hFc := freeS hD hS hA
        refine va_calli (va_runV (As := [.int v2, .int p1]) (rest := [.int v2, .ref (a 16)]) ⟨hx, hb, hml, hown, hG⟩ (c_X7_thought l D cI cZ a X3 v2 p1 H.size hq8) (cwV 2 hG (gV g_666 g_667 g_46 g_77 g_668) rfl rfl rfl (by decide +kernel) ⟨Nat.le_of_ble_eq_true rfl, Nat.le_of_ble_eq_true rfl⟩) ⟨pre_blind, va_recv hK hP (ci := 7) (q0 := 0) rfl rfl, fun U hU hW => ⟨rfl, pre_of hP hK hD hnw hU hW⟩⟩ rfl rfl hl.1 rfl (lv_room (Nat.le_of_ble_eq_true rfl)) dX7_doRumour_20 ⟨Nat.le_of_ble_eq_true rfl, Nat.le_of_ble_eq_true rfl⟩) hS (fun q _ h => hFc q h) hFc (fun v u t H locs ht hvm hw hB hz1 hk1 hS => ?_)
        have hw := hw.symm; subst hw
        obtain ⟨hP1, hD1⟩ := hB
        rw [ht] at hP1
        have hP := hP1
        have hD := hD1.weaken (fun _ q _ h => hFc q.1 h)
        obtain ⟨hb23, hf⟩ := gd hf
        refine va_iast (cA := cI) (n := 6) (f := X3 16) hx hb hK hP hD hS 16 0 at_M_0_16 rfl (inb_in hb23) dX7_doRumour_23 (fun H locs hP hD hS => ?_)
        obtain ⟨X9, eX9⟩ : ∃ y : HC, y = (sa X3 16 v2 q8) := ⟨_, rfl⟩
        have hf := nm_x eX9 hf
        have hP := wP (sa_M_0_16.trans (congrArg (fun z : HC => (kM cI cZ a z)) eX9.symm)) hP
        have hD := wD (sa_M_0_16.trans (congrArg (fun z : HC => (kM cI cZ a z)) eX9.symm)) hD
        refine lv_iconst (v := (0 : Int32)) hx hb dX7_doRumour_24 (by decide) ?_
        refine lv_istore (lv' := [(4, .int (0 : Int32)), (0, .ref (a 0)), (1, .int p1), (2, .int v1), (3, .int v2)]) hx hb dX7_doRumour_25 hl (by decide) rfl (fun ls hl => ?_)
        have L27 : ∀ (n : Nat) (v10 : Int32) (X11 : HC) (H : Heap) (locs : List Loc) (ls : Array Slot), va_P D vwCl (kM cI cZ a X11) H → va_D A (kM cI cZ a X11) → va_S A s.heap H locs → lv_has ls 5 [(0, .ref (a 0)), (1, .int p1), (2, .int v1), (3, .int v2), (4, .int v10)] → lp (fun _ _ => none : Int32 → HC → Option (Int32 × HC)) (f_X7_doRumour_b27 p1 rc4 v1 v2) n v10 X11 = some r → W p l e RM_X7_doRumour s m (([.ref (a 0), .int p1] : List Value).toArray) below meth c H locs 0 0 (MQ below (QI D A (fun (u : HC) => (kM cI cZ a u)) r) (([.ref (a 0), .int p1] : List Value).toArray) s 0 0 A) (F0 m 27 ls []) := by
          intro n
          induction n with
          | zero => intro v10 X11 H locs ls _ _ _ _ hf; cases (show (none : Option (Int32 × HC)) = some r from hf)
          | succ n ih27 =>
            intro v10 X11 H locs ls hP hD hS hl hf
            have hf : (f_X7_doRumour_b27 p1 rc4 v1 v2) (lp (fun _ _ => none : Int32 → HC → Option (Int32 × HC)) (f_X7_doRumour_b27 p1 rc4 v1 v2) n) v10 X11 = some r := hf
            generalize lp (fun _ _ => none : Int32 → HC → Option (Int32 × HC)) (f_X7_doRumour_b27 p1 rc4 v1 v2) n = rc27 at ih27 hf
            unfold f_X7_doRumour_b27 at hf
            refine lv_iload hx hb dX7_doRumour_27 (lv_at hl 4 rfl) ?_
            refine lv_aload_n hx hb dX7_doRumour_29 rfl (lv_at hl 0 rfl) ?_
            refine va_get (D := D) (ci := 7) (v := .int (X11 0 5)) (C := RX7) (T := TX7) (N := 32) hx hb hG inG7 hown hK hP 0 at_M_0_0 rfl 5 (by decide) (hG _ g_569) (fun _ h9 => h9) rfl dX7_doRumour_30 ?_
            refine lv_icmp_ge (tgt := 94) hx hb dX7_doRumour_33 (by decide) (fun cc33 => ?_) (fun cc33 => ?_)
            · have hf := if_t cc33 hf
              refine lv_iload_n hx hb dX7_doRumour_94 rfl (lv_at hl 2 rfl) ?_
              refine lv_aload_n hx hb dX7_doRumour_95 rfl (lv_at hl 0 rfl) ?_
              refine va_get (D := D) (ci := 7) (v := .ref (a 16)) (C := RX7) (T := TX7) (N := 32) hx hb hG inG7 hown hK hP 0 at_M_0_0 rfl 30 (by decide) (hG _ g_594) (fun _ h9 => h9) rfl dX7_doRumour_96 ?_
              refine lv_iload_n hx hb dX7_doRumour_99 rfl (lv_at hl 3 rfl) ?_
              obtain ⟨hb100, hf⟩ := gd hf
              refine va_iald (cA := cI) (n := 6) (f := X11 16) hx hb hK hP 16 0 at_M_0_16 rfl (inb_in hb100) dX7_doRumour_100 ?_
              refine lv_aload_n hx hb dX7_doRumour_101 rfl (lv_at hl 0 rfl) ?_
              refine lv_iload_n hx hb dX7_doRumour_102 rfl (lv_at hl 3 rfl) ?_
              refine lv_iload_n hx hb dX7_doRumour_103 rfl (lv_at hl 1 rfl) ?_
              obtain ⟨q12, hq12, hf⟩ := bd_x hf
              have hFc := freeS hD hS hA
              refine va_calli (va_runV (As := [.int v2, .int p1]) (rest := [.int (X11 16 (Int32.toNatClampNeg v2)), .int v1]) ⟨hx, hb, hml, hown, hG⟩ (c_X7_thought l D cI cZ a X11 v2 p1 H.size hq12) (cwV 2 hG (gV g_666 g_667 g_46 g_77 g_668) rfl rfl rfl (by decide +kernel) ⟨Nat.le_of_ble_eq_true rfl, Nat.le_of_ble_eq_true rfl⟩) ⟨pre_blind, va_recv hK hP (ci := 7) (q0 := 0) rfl rfl, fun U hU hW => ⟨rfl, pre_of hP hK hD hnw hU hW⟩⟩ rfl rfl hl.1 rfl (lv_room (Nat.le_of_ble_eq_true rfl)) dX7_doRumour_104 ⟨Nat.le_of_ble_eq_true rfl, Nat.le_of_ble_eq_true rfl⟩) hS (fun q _ h => hFc q h) hFc (fun v u t H locs ht hvm hw hB hz1 hk1 hS => ?_)
              have hw := hw.symm; subst hw
              obtain ⟨hP1, hD1⟩ := hB
              rw [ht] at hP1
              have hP := hP1
              have hD := hD1.weaken (fun _ q _ h => hFc q.1 h)
              have J115 : ∀ (v13 : Int32) (H : Heap) (locs : List Loc) (ls : Array Slot), va_P D vwCl (kM cI cZ a X11) H → va_D A (kM cI cZ a X11) → va_S A s.heap H locs → lv_has ls 5 [(0, .ref (a 0)), (1, .int p1), (3, .int v2)] → f_X7_doRumour_j115 rc4 v1 v2 X11 v13 = some r → W p l e RM_X7_doRumour s m (([.ref (a 0), .int p1] : List Value).toArray) below meth c H locs 0 0 (MQ below (QI D A (fun (u : HC) => (kM cI cZ a u)) r) (([.ref (a 0), .int p1] : List Value).toArray) s 0 0 A) (F0 m 115 ls [.int v13, .int v1]) := by
                intro v13 H locs ls hP hD hS hl hf
                unfold f_X7_doRumour_j115 at hf
                refine lv_iadd hx hb dX7_doRumour_115 ?_
                refine lv_topi (fun v14 ev14 => ?_)
                have hf := nm_x ev14 hf
                refine lv_istore_n (lv' := [(2, .int v14), (0, .ref (a 0)), (1, .int p1), (3, .int v2)]) hx hb dX7_doRumour_116 rfl hl (by decide) rfl (fun ls hl => ?_)
                obtain ⟨v15, ev15⟩ : ∃ y : Int32, y = (v2 + (1 : Int32)) := ⟨_, rfl⟩
                have hf := nm_x ev15 hf
                refine lv_iinc (v := v15) (lv' := [(3, .int v15), (2, .int v14), (0, .ref (a 0)), (1, .int p1)]) hx hb dX7_doRumour_117 hl (k := 3) rfl (by rw [ev15]; rfl) (by decide) rfl (fun ls hl => ?_)
                refine lv_goto (tgt := 4) hx hb dX7_doRumour_120 (by decide) ?_
                exact ih4 v14 v15 X11 _ _ _ hP hD hS (lv_sub hl [2, 3, 1, 0] rfl) hf
              refine lv_icmp_le (tgt := 114) hx hb dX7_doRumour_107 (by decide) (fun cc107 => ?_) (fun cc107 => ?_)
              · have hf := if_t cc107 hf
                refine lv_iconst (v := (0 : Int32)) hx hb dX7_doRumour_114 (by decide) ?_
                exact J115 (0 : Int32) _ _ _ hP hD hS (lv_sub hl [0, 1, 3] rfl) hf
              · have hf := if_f cc107 hf
                refine lv_iconst (v := (1 : Int32)) hx hb dX7_doRumour_110 (by decide) ?_
                refine lv_goto (tgt := 115) hx hb dX7_doRumour_111 (by decide) ?_
                exact J115 (1 : Int32) _ _ _ hP hD hS (lv_sub hl [0, 1, 3] rfl) hf
            · have hf := if_f cc33 hf
              refine lv_aload_n hx hb dX7_doRumour_36 rfl (lv_at hl 0 rfl) ?_
              refine va_get (D := D) (ci := 7) (v := .ref (a 16)) (C := RX7) (T := TX7) (N := 32) hx hb hG inG7 hown hK hP 0 at_M_0_0 rfl 30 (by decide) (hG _ g_594) (fun _ h9 => h9) rfl dX7_doRumour_37 ?_
              refine lv_iload_n hx hb dX7_doRumour_40 rfl (lv_at hl 3 rfl) ?_
              refine lv_aload_n hx hb dX7_doRumour_41 rfl (lv_at hl 0 rfl) ?_
              refine va_get (D := D) (ci := 7) (v := .ref (a 6)) (C := RX7) (T := TX7) (N := 32) hx hb hG inG7 hown hK hP 0 at_M_0_0 rfl 10 (by decide) (hG _ g_574) (fun _ h9 => h9) rfl dX7_doRumour_42 ?_
              refine lv_iload_n hx hb dX7_doRumour_45 rfl (lv_at hl 3 rfl) ?_
              obtain ⟨hb46, hf⟩ := gd hf
              refine va_iald (cA := cI) (n := 6) (f := X11 6) hx hb hK hP 6 0 at_M_0_6 rfl (inb_in hb46) dX7_doRumour_46 ?_
              refine lv_iload hx hb dX7_doRumour_47 (lv_at hl 4 rfl) ?_
              obtain ⟨q16, hq16, hf⟩ := bd_x hf
              have hFc := va_free (wc := []) hD hS hA [] rfl
              refine va_calli (va_runS (As := [.int (X11 6 (Int32.toNatClampNeg v2)), .int v10]) (rest := [.int v2, .ref (a 16)]) ⟨hx, hb, hml, hown, hG⟩ (c_X7_has l D cI cZ (X11 6 (Int32.toNatClampNeg v2)) v10 H.size hq16) (cwS 2 hG (gS g_643 g_644 g_77 g_645) rfl rfl rfl (by decide +kernel) ⟨Nat.le_of_ble_eq_true rfl, Nat.le_of_ble_eq_true rfl⟩) ⟨pre_blind, fun U hU hW => ⟨rfl, pre_of P_nil hK D_nil hnw hU hW⟩⟩ rfl rfl hl.1 rfl (lv_room (Nat.le_of_ble_eq_true rfl)) dX7_doRumour_49 ⟨Nat.le_of_ble_eq_true rfl, Nat.le_of_ble_eq_true rfl⟩) hS (fun q _ h => hFc q h) hFc (fun v u t H locs ht hvm hw hB hz1 hk1 hS => ?_)
              have hw := hw.symm; subst hw
              obtain ⟨hP1, hD1⟩ := hB
              rw [ht] at hP1
              obtain ⟨hP, hD⟩ := back hP hD [] rfl rfl hk1 hFc hP1 hD1
              have J87 : ∀ (v17 : Int32) (H : Heap) (locs : List Loc) (ls : Array Slot), va_P D vwCl (kM cI cZ a X11) H → va_D A (kM cI cZ a X11) → va_S A s.heap H locs → lv_has ls 5 [(0, .ref (a 0)), (1, .int p1), (2, .int v1), (3, .int v2), (4, .int v10)] → f_X7_doRumour_j87 v2 rc27 v10 X11 v17 = some r → W p l e RM_X7_doRumour s m (([.ref (a 0), .int p1] : List Value).toArray) below meth c H locs 0 0 (MQ below (QI D A (fun (u : HC) => (kM cI cZ a u)) r) (([.ref (a 0), .int p1] : List Value).toArray) s 0 0 A) (F0 m 87 ls [.int v17, .int v2, .ref (a 16)]) := by
                intro v17 H locs ls hP hD hS hl hf
                unfold f_X7_doRumour_j87 at hf
                obtain ⟨hb87, hf⟩ := gd hf
                refine va_iast (cA := cI) (n := 6) (f := X11 16) hx hb hK hP hD hS 16 0 at_M_0_16 rfl (inb_in hb87) dX7_doRumour_87 (fun H locs hP hD hS => ?_)
                obtain ⟨X18, eX18⟩ : ∃ y : HC, y = (sa X11 16 v2 v17) := ⟨_, rfl⟩
                have hf := nm_x eX18 hf
                have hP := wP (sa_M_0_16.trans (congrArg (fun z : HC => (kM cI cZ a z)) eX18.symm)) hP
                have hD := wD (sa_M_0_16.trans (congrArg (fun z : HC => (kM cI cZ a z)) eX18.symm)) hD
                obtain ⟨v19, ev19⟩ : ∃ y : Int32, y = (v10 + (1 : Int32)) := ⟨_, rfl⟩
                have hf := nm_x ev19 hf
                refine lv_iinc (v := v19) (lv' := [(4, .int v19), (0, .ref (a 0)), (1, .int p1), (2, .int v1), (3, .int v2)]) hx hb dX7_doRumour_88 hl (k := 4) rfl (by rw [ev19]; rfl) (by decide) rfl (fun ls hl => ?_)
                refine lv_goto (tgt := 27) hx hb dX7_doRumour_91 (by decide) ?_
                exact ih27 v19 X18 _ _ _ hP hD hS (lv_sub hl [1, 2, 3, 4, 0] rfl) hf
              have J81 : ∀  (H : Heap) (locs : List Loc) (ls : Array Slot), va_P D vwCl (kM cI cZ a X11) H → va_D A (kM cI cZ a X11) → va_S A s.heap H locs → lv_has ls 5 [(0, .ref (a 0)), (1, .int p1), (2, .int v1), (3, .int v2), (4, .int v10)] → f_X7_doRumour_j81 v2 rc27 v10 X11  = some r → W p l e RM_X7_doRumour s m (([.ref (a 0), .int p1] : List Value).toArray) below meth c H locs 0 0 (MQ below (QI D A (fun (u : HC) => (kM cI cZ a u)) r) (([.ref (a 0), .int p1] : List Value).toArray) s 0 0 A) (F0 m 81 ls [.int v2, .ref (a 16)]) := by
                intro  H locs ls hP hD hS hl hf
                unfold f_X7_doRumour_j81 at hf
                refine lv_aload_n hx hb dX7_doRumour_81 rfl (lv_at hl 0 rfl) ?_
                refine va_get (D := D) (ci := 7) (v := .ref (a 16)) (C := RX7) (T := TX7) (N := 32) hx hb hG inG7 hown hK hP 0 at_M_0_0 rfl 30 (by decide) (hG _ g_594) (fun _ h9 => h9) rfl dX7_doRumour_82 ?_
                refine lv_iload_n hx hb dX7_doRumour_85 rfl (lv_at hl 3 rfl) ?_
                obtain ⟨hb86, hf⟩ := gd hf
                refine va_iald (cA := cI) (n := 6) (f := X11 16) hx hb hK hP 16 0 at_M_0_16 rfl (inb_in hb86) dX7_doRumour_86 ?_
                exact J87 (X11 16 (Int32.toNatClampNeg v2)) _ _ _ hP hD hS (lv_sub hl [0, 1, 2, 3, 4] rfl) hf
              refine lv_if_eq (tgt := 81) hx hb dX7_doRumour_52 (by decide) (fun cc52 => ?_) (fun cc52 => ?_)
              · have hf := if_t cc52 hf
                exact J81  _ _ _ hP hD hS (lv_sub hl [0, 1, 2, 3, 4] rfl) hf
              · have hf := if_f cc52 hf
                refine lv_aload_n hx hb dX7_doRumour_55 rfl (lv_at hl 0 rfl) ?_
                refine lv_iload hx hb dX7_doRumour_56 (lv_at hl 4 rfl) ?_
                refine lv_iload_n hx hb dX7_doRumour_58 rfl (lv_at hl 1 rfl) ?_
                obtain ⟨q20, hq20, hf⟩ := bd_x hf
                have hFc := freeS hD hS hA
                refine va_calli (va_runV (As := [.int v10, .int p1]) (rest := [.int v2, .ref (a 16)]) ⟨hx, hb, hml, hown, hG⟩ (c_X7_thought l D cI cZ a X11 v10 p1 H.size hq20) (cwV 2 hG (gV g_666 g_667 g_46 g_77 g_668) rfl rfl rfl (by decide +kernel) ⟨Nat.le_of_ble_eq_true rfl, Nat.le_of_ble_eq_true rfl⟩) ⟨pre_blind, va_recv hK hP (ci := 7) (q0 := 0) rfl rfl, fun U hU hW => ⟨rfl, pre_of hP hK hD hnw hU hW⟩⟩ rfl rfl hl.1 rfl (lv_room (Nat.le_of_ble_eq_true rfl)) dX7_doRumour_59 ⟨Nat.le_of_ble_eq_true rfl, Nat.le_of_ble_eq_true rfl⟩) hS (fun q _ h => hFc q h) hFc (fun v u t H locs ht hvm hw hB hz1 hk1 hS => ?_)
                have hw := hw.symm; subst hw
                obtain ⟨hP1, hD1⟩ := hB
                rw [ht] at hP1
                have hP := hP1
                have hD := hD1.weaken (fun _ q _ h => hFc q.1 h)
                refine lv_aload_n hx hb dX7_doRumour_62 rfl (lv_at hl 0 rfl) ?_
                refine va_get (D := D) (ci := 7) (v := .ref (a 16)) (C := RX7) (T := TX7) (N := 32) hx hb hG inG7 hown hK hP 0 at_M_0_0 rfl 30 (by decide) (hG _ g_594) (fun _ h9 => h9) rfl dX7_doRumour_63 ?_
                refine lv_iload_n hx hb dX7_doRumour_66 rfl (lv_at hl 3 rfl) ?_
                obtain ⟨hb67, hf⟩ := gd hf
                refine va_iald (cA := cI) (n := 6) (f := X11 16) hx hb hK hP 16 0 at_M_0_16 rfl (inb_in hb67) dX7_doRumour_67 ?_
                refine lv_icmp_le (tgt := 81) hx hb dX7_doRumour_68 (by decide) (fun cc68 => ?_) (fun cc68 => ?_)
                · have hf := if_t cc68 hf
                  exact J81  _ _ _ hP hD hS (lv_sub hl [0, 1, 2, 3, 4] rfl) hf
                · have hf := if_f cc68 hf
                  refine lv_aload_n hx hb dX7_doRumour_71 rfl (lv_at hl 0 rfl) ?_
                  refine lv_iload hx hb dX7_doRumour_72 (lv_at hl 4 rfl) ?_
                  refine lv_iload_n hx hb dX7_doRumour_74 rfl (lv_at hl 1 rfl) ?_
                  obtain ⟨q21, hq21, hf⟩ := bd_x hf
                  have hFc := freeS hD hS hA
                  refine va_calli (va_runV (As := [.int v10, .int p1]) (rest := [.int v2, .ref (a 16)]) ⟨hx, hb, hml, hown, hG⟩ (c_X7_thought l D cI cZ a X11 v10 p1 H.size hq21) (cwV 2 hG (gV g_666 g_667 g_46 g_77 g_668) rfl rfl rfl (by decide +kernel) ⟨Nat.le_of_ble_eq_true rfl, Nat.le_of_ble_eq_true rfl⟩) ⟨pre_blind, va_recv hK hP (ci := 7) (q0 := 0) rfl rfl, fun U hU hW => ⟨rfl, pre_of hP hK hD hnw hU hW⟩⟩ rfl rfl hl.1 rfl (lv_room (Nat.le_of_ble_eq_true rfl)) dX7_doRumour_75 ⟨Nat.le_of_ble_eq_true rfl, Nat.le_of_ble_eq_true rfl⟩) hS (fun q _ h => hFc q h) hFc (fun v u t H locs ht hvm hw hB hz1 hk1 hS => ?_)
                  have hw := hw.symm; subst hw
                  obtain ⟨hP1, hD1⟩ := hB
                  rw [ht] at hP1
                  have hP := hP1
                  have hD := hD1.weaken (fun _ q _ h => hFc q.1 h)
                  refine lv_goto (tgt := 87) hx hb dX7_doRumour_78 (by decide) ?_
                  exact J87 q21 _ _ _ hP hD hS (lv_sub hl [0, 1, 2, 3, 4] rfl) hf
        exact L27 FU (0 : Int32) X9 _ _ _ hP hD hS (lv_sub hl [1, 2, 3, 4, 0] rfl) hf
  exact L4 FU (0 : Int32) (0 : Int32) x _ _ _ hP hD hS (lv_sub hl [2, 3, 1, 0] rfl) hf
def f_X7_rumour (x : HC) (p1 : Int32) : Option (Int32 × HC) := bd (f_X7_isFighter x p1) (fun (q1 : Int32) => (if q1 = 0 then some ((-1000000001 : Int32), x) else bd (f_X7_doRumour x p1) (fun (q2 : Int32 × HC) => some (q2.1, q2.2))))
abbrev RM_X7_rumour : Room := { frames := 2, cells := 0, slots := 0, locals := 47 }
set_option maxHeartbeats 4000000 in
set_option maxRecDepth 100000 in
theorem c_X7_rumour (l : Launch) (D : va_G) (cI cZ : ClassId) (a : Nat → Nat) (x : HC) (p1 : Int32) (sz : Nat) {r : Int32 × HC} (hf : f_X7_rumour x p1 = some r) : Met l yX7_rumour (wM yX7_rumour cX7_rumour 2 (some .int)) RM_X7_rumour (va_Pc [.ref (a 0), .int p1] (pre D cI cZ (kM cI cZ a x) sz)) (QI D (va_A (kM cI cZ a x) sz) (fun (u : HC) => (kM cI cZ a u)) r) 0 0 (va_A (kM cI cZ a x) sz) := by
  unfold f_X7_rumour at hf
  refine Met.ofW (cc := cX7_rumour) (maxL := 2) (ret := (some .int)) (by decide) rfl ?_
  intro p e s m args below meth c s₁ B hml hv
  obtain ⟨rfl, hsz, hP, hK, hD0, hnw⟩ := hv
  have hx := B.exec
  have hb := B.bytes
  have hr := B.returns
  have hts := atoms_spec (ws := wM yX7_rumour cX7_rumour 2 (some .int)) B.pre
  have hG : ∀ w ∈ GW, w.before (([.ref (a 0), .int p1] : List Value).toArray) s = true := fun w h => hts w (List.mem_cons_of_mem _ h)
  have hown : s.vm.findClass RX7 = some m.cls := findClass_of_methodNamed B.named
  have hlocks := B.notSynchronized
  subst hsz
  have hD := hD0.self (sz := s.heap.size)
  generalize hAe : va_A (kM cI cZ a x) s.heap.size = A at hD ⊢
  have hA : ∀ q : Nat, s.heap.size ≤ q → A q := fun q h => by rw [← hAe]; exact Or.inr h
  have hS : va_S A s.heap s.heap [] := va_S.rf
  have hl := lv_entry ([.ref (a 0), .int p1]) (n := 2) (Nat.le_of_ble_eq_true rfl)
  rw [lg_entry_eq]
  generalize (lg_sl ([.ref (a 0), .int p1]) ++ List.replicate (2 - (lg_sl ([.ref (a 0), .int p1])).length) Slot.unset).toArray = ls at hl ⊢
  have hl : lv_has ls 2 [(0, .ref (a 0)), (1, .int p1)] := hl
  show W p l e RM_X7_rumour s m (([.ref (a 0), .int p1] : List Value).toArray) below meth c s.heap [] 0 0 (MQ below (QI D A (fun (u : HC) => (kM cI cZ a u)) r) (([.ref (a 0), .int p1] : List Value).toArray) s 0 0 A) (F0 m 0 ls [])
  refine lv_aload_n hx hb dX7_rumour_0 rfl (lv_at hl 0 rfl) ?_
  refine lv_iload_n hx hb dX7_rumour_1 rfl (lv_at hl 1 rfl) ?_
  obtain ⟨q1, hq1, hf⟩ := bd_x hf
  have hFc := freeS hD hS hA
  refine va_calli (va_runV (As := [.int p1]) (rest := []) ⟨hx, hb, hml, hown, hG⟩ (c_X7_isFighter l D cI cZ a x p1 s.heap.size hq1) (cwV 1 hG (gV g_673 g_674 g_47 g_77 g_675) rfl rfl rfl (by decide +kernel) ⟨Nat.le_of_ble_eq_true rfl, Nat.le_of_ble_eq_true rfl⟩) ⟨pre_blind, va_recv hK hP (ci := 7) (q0 := 0) rfl rfl, fun U hU hW => ⟨rfl, pre_of hP hK hD hnw hU hW⟩⟩ rfl rfl hl.1 rfl (lv_room (Nat.le_of_ble_eq_true rfl)) dX7_rumour_2 ⟨Nat.le_of_ble_eq_true rfl, Nat.le_of_ble_eq_true rfl⟩) hS (fun q _ h => hFc q h) hFc (fun v u t H locs ht hvm hw hB hz1 hk1 hS => ?_)
  have hw := hw.symm; subst hw
  obtain ⟨hP1, hD1⟩ := hB
  rw [ht] at hP1
  have hP := hP1
  have hD := hD1.weaken (fun _ q _ h => hFc q.1 h)
  refine lv_if_eq (tgt := 16) hx hb dX7_rumour_5 (by decide) (fun cc5 => ?_) (fun cc5 => ?_)
  · have hf := if_t cc5 hf
    refine lv_ldc hx hb hown (hG _ g_676) dX7_rumour_16 ?_
    exact W.iret (v := (-1000000001 : Int32)) hx hb hr (fun t ht hW => ⟨⟨(-1000000001 : Int32), x, rfl, ⟨pr_1 hf, pr_2 hf⟩, by rw [ht]; exact hP, hD⟩, hS.F ht⟩) hS.2.2 dX7_rumour_18
  · have hf := if_f cc5 hf
    refine lv_aload_n hx hb dX7_rumour_8 rfl (lv_at hl 0 rfl) ?_
    refine lv_iload_n hx hb dX7_rumour_9 rfl (lv_at hl 1 rfl) ?_
    obtain ⟨q2, hq2, hf⟩ := bd_x hf
    have hFc := freeS hD hS hA
    refine va_calli (va_runV (As := [.int p1]) (rest := []) ⟨hx, hb, hml, hown, hG⟩ (c_X7_doRumour l D cI cZ a x p1 H.size hq2) (cwV 1 hG (gV g_727 g_728 g_56 g_77 g_729) rfl rfl rfl (by decide +kernel) ⟨Nat.le_of_ble_eq_true rfl, Nat.le_of_ble_eq_true rfl⟩) ⟨pre_blind, va_recv hK hP (ci := 7) (q0 := 0) rfl rfl, fun U hU hW => ⟨rfl, pre_of hP hK hD hnw hU hW⟩⟩ rfl rfl hl.1 rfl (lv_room (Nat.le_of_ble_eq_true rfl)) dX7_rumour_10 ⟨Nat.le_of_ble_eq_true rfl, Nat.le_of_ble_eq_true rfl⟩) hS (fun q _ h => hFc q h) hFc (fun v u t H locs ht hvm hw hB hz1 hk1 hS => ?_)
    obtain ⟨rfl, rfl⟩ := hw
    obtain ⟨hP1, hD1⟩ := hB
    rw [ht] at hP1
    have hP := hP1
    have hD := hD1.weaken (fun _ q _ h => hFc q.1 h)
    refine lv_goto (tgt := 18) hx hb dX7_rumour_13 (by decide) ?_
    exact W.iret (v := q2.1) hx hb hr (fun t ht hW => ⟨⟨q2.1, q2.2, rfl, ⟨pr_1 hf, pr_2 hf⟩, by rw [ht]; exact hP, hD⟩, hS.F ht⟩) hS.2.2 dX7_rumour_18
def f_X7_doInspect (x : HC) (p1 : Int32) (p2 : Int32) : Option (HC) := (if inb p2 5 then bd (f_X7_think x p1 p2 (x 5 (Int32.toNatClampNeg p2))) (fun (q1 : HC) => (if inb p2 5 then (if (q1 4 (Int32.toNatClampNeg p2)) = (3 : Int32) then (if inb ((0 : Int32) + p2) 141 then nm (sa q1 1 ((0 : Int32) + p2) (0 : Int32)) (fun (X3 : HC) => some X3) else none) else (if inb ((0 : Int32) + p2) 141 then (if inb ((0 : Int32) + p2) 141 then nm (sa q1 1 ((0 : Int32) + p2) (q1 1 (Int32.toNatClampNeg ((0 : Int32) + p2)))) (fun (X2 : HC) => some X2) else none) else none)) else none)) else none)
abbrev RM_X7_doInspect : Room := { frames := 1, cells := 0, slots := 0, locals := 23 }
set_option maxHeartbeats 4000000 in
set_option maxRecDepth 100000 in
theorem c_X7_doInspect (l : Launch) (D : va_G) (cI cZ : ClassId) (a : Nat → Nat) (x : HC) (p1 : Int32) (p2 : Int32) (sz : Nat) {r : HC} (hf : f_X7_doInspect x p1 p2 = some r) : Met l yX7_doInspect (wM yX7_doInspect cX7_doInspect 3 none) RM_X7_doInspect (va_Pc [.ref (a 0), .int p1, .int p2] (pre D cI cZ (kM cI cZ a x) sz)) (QV D (va_A (kM cI cZ a x) sz) (fun (u : HC) => (kM cI cZ a u)) r) 0 0 (va_A (kM cI cZ a x) sz) := by
  unfold f_X7_doInspect at hf
  refine Met.ofW (cc := cX7_doInspect) (maxL := 3) (ret := none) (by decide) rfl ?_
  intro p e s m args below meth c s₁ B hml hv
  obtain ⟨rfl, hsz, hP, hK, hD0, hnw⟩ := hv
  have hx := B.exec
  have hb := B.bytes
  have hr := B.returns
  have hts := atoms_spec (ws := wM yX7_doInspect cX7_doInspect 3 none) B.pre
  have hG : ∀ w ∈ GW, w.before (([.ref (a 0), .int p1, .int p2] : List Value).toArray) s = true := fun w h => hts w (List.mem_cons_of_mem _ h)
  have hown : s.vm.findClass RX7 = some m.cls := findClass_of_methodNamed B.named
  have hlocks := B.notSynchronized
  subst hsz
  have hD := hD0.self (sz := s.heap.size)
  generalize hAe : va_A (kM cI cZ a x) s.heap.size = A at hD ⊢
  have hA : ∀ q : Nat, s.heap.size ≤ q → A q := fun q h => by rw [← hAe]; exact Or.inr h
  have hS : va_S A s.heap s.heap [] := va_S.rf
  have hl := lv_entry ([.ref (a 0), .int p1, .int p2]) (n := 3) (Nat.le_of_ble_eq_true rfl)
  rw [lg_entry_eq]
  generalize (lg_sl ([.ref (a 0), .int p1, .int p2]) ++ List.replicate (3 - (lg_sl ([.ref (a 0), .int p1, .int p2])).length) Slot.unset).toArray = ls at hl ⊢
  have hl : lv_has ls 3 [(0, .ref (a 0)), (1, .int p1), (2, .int p2)] := hl
  show W p l e RM_X7_doInspect s m (([.ref (a 0), .int p1, .int p2] : List Value).toArray) below meth c s.heap [] 0 0 (MQ below (QV D A (fun (u : HC) => (kM cI cZ a u)) r) (([.ref (a 0), .int p1, .int p2] : List Value).toArray) s 0 0 A) (F0 m 0 ls [])
  refine lv_aload_n hx hb dX7_doInspect_0 rfl (lv_at hl 0 rfl) ?_
  refine lv_iload_n hx hb dX7_doInspect_1 rfl (lv_at hl 1 rfl) ?_
  refine lv_iload_n hx hb dX7_doInspect_2 rfl (lv_at hl 2 rfl) ?_
  refine lv_aload_n hx hb dX7_doInspect_3 rfl (lv_at hl 0 rfl) ?_
  refine va_get (D := D) (ci := 7) (v := .ref (a 5)) (C := RX7) (T := TX7) (N := 32) hx hb hG inG7 hown hK hP 0 at_M_0_0 rfl 8 (by decide) (hG _ g_572) (fun _ h9 => h9) rfl dX7_doInspect_4 ?_
  refine lv_iload_n hx hb dX7_doInspect_7 rfl (lv_at hl 2 rfl) ?_
  obtain ⟨hb8, hf⟩ := gd hf
  refine va_iald (cA := cI) (n := 5) (f := x 5) hx hb hK hP 5 0 at_M_0_5 rfl (inb_in hb8) dX7_doInspect_8 ?_
  obtain ⟨q1, hq1, hf⟩ := bd_x hf
  have hFc := freeS hD hS hA
  refine va_callv (va_runV (As := [.int p1, .int p2, .int (x 5 (Int32.toNatClampNeg p2))]) (rest := []) ⟨hx, hb, hml, hown, hG⟩ (c_X7_think l D cI cZ a x p1 p2 (x 5 (Int32.toNatClampNeg p2)) s.heap.size hq1) (cwV 3 hG (gV g_720 g_721 g_55 g_77 g_722) rfl rfl rfl (by decide +kernel) ⟨Nat.le_of_ble_eq_true rfl, Nat.le_of_ble_eq_true rfl⟩) ⟨pre_blind, va_recv hK hP (ci := 7) (q0 := 0) rfl rfl, fun U hU hW => ⟨rfl, pre_of hP hK hD hnw hU hW⟩⟩ rfl rfl hl.1 rfl (lv_room (Nat.le_of_ble_eq_true rfl)) dX7_doInspect_9 ⟨Nat.le_of_ble_eq_true rfl, Nat.le_of_ble_eq_true rfl⟩) hS (fun q _ h => hFc q h) hFc (fun u t H locs ht hvm hw hB hz1 hk1 hS => ?_)
  have hw := hw.symm; subst hw
  obtain ⟨hP1, hD1⟩ := hB
  rw [ht] at hP1
  have hP := hP1
  have hD := hD1.weaken (fun _ q _ h => hFc q.1 h)
  refine lv_aload_n hx hb dX7_doInspect_12 rfl (lv_at hl 0 rfl) ?_
  refine va_get (D := D) (ci := 7) (v := .ref (a 1)) (C := RX7) (T := TX7) (N := 32) hx hb hG inG7 hown hK hP 0 at_M_0_0 rfl 0 (by decide) (hG _ g_564) (fun _ h9 => h9) rfl dX7_doInspect_13 ?_
  refine lv_iconst (v := (0 : Int32)) hx hb dX7_doInspect_16 (by decide) ?_
  refine lv_iload_n hx hb dX7_doInspect_17 rfl (lv_at hl 2 rfl) ?_
  refine lv_iadd hx hb dX7_doInspect_18 ?_
  refine lv_aload_n hx hb dX7_doInspect_19 rfl (lv_at hl 0 rfl) ?_
  refine va_get (D := D) (ci := 7) (v := .ref (a 4)) (C := RX7) (T := TX7) (N := 32) hx hb hG inG7 hown hK hP 0 at_M_0_0 rfl 7 (by decide) (hG _ g_571) (fun _ h9 => h9) rfl dX7_doInspect_20 ?_
  refine lv_iload_n hx hb dX7_doInspect_23 rfl (lv_at hl 2 rfl) ?_
  obtain ⟨hb24, hf⟩ := gd hf
  refine va_iald (cA := cI) (n := 5) (f := q1 4) hx hb hK hP 4 0 at_M_0_4 rfl (inb_in hb24) dX7_doInspect_24 ?_
  refine lv_iconst (v := (3 : Int32)) hx hb dX7_doInspect_25 (by decide) ?_
  refine lv_icmp_ne (tgt := 33) hx hb dX7_doInspect_26 (by decide) (fun cc26 => ?_) (fun cc26 => ?_)
  · have hf := if_f cc26 hf
    refine lv_aload_n hx hb dX7_doInspect_33 rfl (lv_at hl 0 rfl) ?_
    refine va_get (D := D) (ci := 7) (v := .ref (a 1)) (C := RX7) (T := TX7) (N := 32) hx hb hG inG7 hown hK hP 0 at_M_0_0 rfl 0 (by decide) (hG _ g_564) (fun _ h9 => h9) rfl dX7_doInspect_34 ?_
    refine lv_iconst (v := (0 : Int32)) hx hb dX7_doInspect_37 (by decide) ?_
    refine lv_iload_n hx hb dX7_doInspect_38 rfl (lv_at hl 2 rfl) ?_
    refine lv_iadd hx hb dX7_doInspect_39 ?_
    obtain ⟨hb40, hf⟩ := gd hf
    refine va_iald (cA := cI) (n := 141) (f := q1 1) hx hb hK hP 1 0 at_M_0_1 rfl (inb_in hb40) dX7_doInspect_40 ?_
    obtain ⟨hb41, hf⟩ := gd hf
    refine va_iast (cA := cI) (n := 141) (f := q1 1) hx hb hK hP hD hS 1 0 at_M_0_1 rfl (inb_in hb41) dX7_doInspect_41 (fun H locs hP hD hS => ?_)
    obtain ⟨X2, eX2⟩ : ∃ y : HC, y = (sa q1 1 ((0 : Int32) + p2) (q1 1 (Int32.toNatClampNeg ((0 : Int32) + p2)))) := ⟨_, rfl⟩
    have hf := nm_x eX2 hf
    have hP := wP (sa_M_0_1.trans (congrArg (fun z : HC => (kM cI cZ a z)) eX2.symm)) hP
    have hD := wD (sa_M_0_1.trans (congrArg (fun z : HC => (kM cI cZ a z)) eX2.symm)) hD
    exact W.vret hx hb hr (fun t ht hW => ⟨⟨X2, rfl, Option.some.inj hf, by rw [ht]; exact hP, hD⟩, hS.F ht⟩) hS.2.2 dX7_doInspect_42
  · have hf := if_t cc26 hf
    refine lv_iconst (v := (0 : Int32)) hx hb dX7_doInspect_29 (by decide) ?_
    refine lv_goto (tgt := 41) hx hb dX7_doInspect_30 (by decide) ?_
    obtain ⟨hb41, hf⟩ := gd hf
    refine va_iast (cA := cI) (n := 141) (f := q1 1) hx hb hK hP hD hS 1 0 at_M_0_1 rfl (inb_in hb41) dX7_doInspect_41 (fun H locs hP hD hS => ?_)
    obtain ⟨X3, eX3⟩ : ∃ y : HC, y = (sa q1 1 ((0 : Int32) + p2) (0 : Int32)) := ⟨_, rfl⟩
    have hf := nm_x eX3 hf
    have hP := wP (sa_M_0_1.trans (congrArg (fun z : HC => (kM cI cZ a z)) eX3.symm)) hP
    have hD := wD (sa_M_0_1.trans (congrArg (fun z : HC => (kM cI cZ a z)) eX3.symm)) hD
    exact W.vret hx hb hr (fun t ht hW => ⟨⟨X3, rfl, Option.some.inj hf, by rw [ht]; exact hP, hD⟩, hS.F ht⟩) hS.2.2 dX7_doInspect_42
def f_X7_inspect (x : HC) (p1 : Int32) (p2 : Int32) : Option (Int32 × HC) := bd (f_X7_isOne x p1) (fun (q1 : Int32) => (if q1 = 0 then some ((-1000000001 : Int32), x) else bd (f_X7_isFighter x p2) (fun (q2 : Int32) => (if q2 = 0 then some ((-1000000001 : Int32), x) else bd (f_X7_doInspect x p1 p2) (fun (q3 : HC) => (if inb p2 5 then some ((q3 5 (Int32.toNatClampNeg p2)), q3) else none))))))
abbrev RM_X7_inspect : Room := { frames := 2, cells := 0, slots := 0, locals := 46 }
set_option maxHeartbeats 4000000 in
set_option maxRecDepth 100000 in
theorem c_X7_inspect (l : Launch) (D : va_G) (cI cZ : ClassId) (a : Nat → Nat) (x : HC) (p1 : Int32) (p2 : Int32) (sz : Nat) {r : Int32 × HC} (hf : f_X7_inspect x p1 p2 = some r) : Met l yX7_inspect (wM yX7_inspect cX7_inspect 3 (some .int)) RM_X7_inspect (va_Pc [.ref (a 0), .int p1, .int p2] (pre D cI cZ (kM cI cZ a x) sz)) (QI D (va_A (kM cI cZ a x) sz) (fun (u : HC) => (kM cI cZ a u)) r) 0 0 (va_A (kM cI cZ a x) sz) := by
  unfold f_X7_inspect at hf
  refine Met.ofW (cc := cX7_inspect) (maxL := 3) (ret := (some .int)) (by decide) rfl ?_
  intro p e s m args below meth c s₁ B hml hv
  obtain ⟨rfl, hsz, hP, hK, hD0, hnw⟩ := hv
  have hx := B.exec
  have hb := B.bytes
  have hr := B.returns
  have hts := atoms_spec (ws := wM yX7_inspect cX7_inspect 3 (some .int)) B.pre
  have hG : ∀ w ∈ GW, w.before (([.ref (a 0), .int p1, .int p2] : List Value).toArray) s = true := fun w h => hts w (List.mem_cons_of_mem _ h)
  have hown : s.vm.findClass RX7 = some m.cls := findClass_of_methodNamed B.named
  have hlocks := B.notSynchronized
  subst hsz
  have hD := hD0.self (sz := s.heap.size)
  generalize hAe : va_A (kM cI cZ a x) s.heap.size = A at hD ⊢
  have hA : ∀ q : Nat, s.heap.size ≤ q → A q := fun q h => by rw [← hAe]; exact Or.inr h
  have hS : va_S A s.heap s.heap [] := va_S.rf
  have hl := lv_entry ([.ref (a 0), .int p1, .int p2]) (n := 3) (Nat.le_of_ble_eq_true rfl)
  rw [lg_entry_eq]
  generalize (lg_sl ([.ref (a 0), .int p1, .int p2]) ++ List.replicate (3 - (lg_sl ([.ref (a 0), .int p1, .int p2])).length) Slot.unset).toArray = ls at hl ⊢
  have hl : lv_has ls 3 [(0, .ref (a 0)), (1, .int p1), (2, .int p2)] := hl
  show W p l e RM_X7_inspect s m (([.ref (a 0), .int p1, .int p2] : List Value).toArray) below meth c s.heap [] 0 0 (MQ below (QI D A (fun (u : HC) => (kM cI cZ a u)) r) (([.ref (a 0), .int p1, .int p2] : List Value).toArray) s 0 0 A) (F0 m 0 ls [])
  refine lv_aload_n hx hb dX7_inspect_0 rfl (lv_at hl 0 rfl) ?_
  refine lv_iload_n hx hb dX7_inspect_1 rfl (lv_at hl 1 rfl) ?_
  obtain ⟨q1, hq1, hf⟩ := bd_x hf
  have hFc := freeS hD hS hA
  refine va_calli (va_runV (As := [.int p1]) (rest := []) ⟨hx, hb, hml, hown, hG⟩ (c_X7_isOne l D cI cZ a x p1 s.heap.size hq1) (cwV 1 hG (gV g_690 g_691 g_51 g_77 g_692) rfl rfl rfl (by decide +kernel) ⟨Nat.le_of_ble_eq_true rfl, Nat.le_of_ble_eq_true rfl⟩) ⟨pre_blind, va_recv hK hP (ci := 7) (q0 := 0) rfl rfl, fun U hU hW => ⟨rfl, pre_of hP hK hD hnw hU hW⟩⟩ rfl rfl hl.1 rfl (lv_room (Nat.le_of_ble_eq_true rfl)) dX7_inspect_2 ⟨Nat.le_of_ble_eq_true rfl, Nat.le_of_ble_eq_true rfl⟩) hS (fun q _ h => hFc q h) hFc (fun v u t H locs ht hvm hw hB hz1 hk1 hS => ?_)
  have hw := hw.symm; subst hw
  obtain ⟨hP1, hD1⟩ := hB
  rw [ht] at hP1
  have hP := hP1
  have hD := hD1.weaken (fun _ q _ h => hFc q.1 h)
  refine lv_if_eq (tgt := 16) hx hb dX7_inspect_5 (by decide) (fun cc5 => ?_) (fun cc5 => ?_)
  · have hf := if_t cc5 hf
    refine lv_ldc hx hb hown (hG _ g_676) dX7_inspect_16 ?_
    exact W.iret (v := (-1000000001 : Int32)) hx hb hr (fun t ht hW => ⟨⟨(-1000000001 : Int32), x, rfl, ⟨pr_1 hf, pr_2 hf⟩, by rw [ht]; exact hP, hD⟩, hS.F ht⟩) hS.2.2 dX7_inspect_18
  · have hf := if_f cc5 hf
    refine lv_aload_n hx hb dX7_inspect_8 rfl (lv_at hl 0 rfl) ?_
    refine lv_iload_n hx hb dX7_inspect_9 rfl (lv_at hl 2 rfl) ?_
    obtain ⟨q2, hq2, hf⟩ := bd_x hf
    have hFc := freeS hD hS hA
    refine va_calli (va_runV (As := [.int p2]) (rest := []) ⟨hx, hb, hml, hown, hG⟩ (c_X7_isFighter l D cI cZ a x p2 H.size hq2) (cwV 1 hG (gV g_673 g_674 g_47 g_77 g_675) rfl rfl rfl (by decide +kernel) ⟨Nat.le_of_ble_eq_true rfl, Nat.le_of_ble_eq_true rfl⟩) ⟨pre_blind, va_recv hK hP (ci := 7) (q0 := 0) rfl rfl, fun U hU hW => ⟨rfl, pre_of hP hK hD hnw hU hW⟩⟩ rfl rfl hl.1 rfl (lv_room (Nat.le_of_ble_eq_true rfl)) dX7_inspect_10 ⟨Nat.le_of_ble_eq_true rfl, Nat.le_of_ble_eq_true rfl⟩) hS (fun q _ h => hFc q h) hFc (fun v u t H locs ht hvm hw hB hz1 hk1 hS => ?_)
    have hw := hw.symm; subst hw
    obtain ⟨hP1, hD1⟩ := hB
    rw [ht] at hP1
    have hP := hP1
    have hD := hD1.weaken (fun _ q _ h => hFc q.1 h)
    refine lv_if_ne (tgt := 19) hx hb dX7_inspect_13 (by decide) (fun cc13 => ?_) (fun cc13 => ?_)
    · have hf := if_f cc13 hf
      refine lv_aload_n hx hb dX7_inspect_19 rfl (lv_at hl 0 rfl) ?_
      refine lv_iload_n hx hb dX7_inspect_20 rfl (lv_at hl 1 rfl) ?_
      refine lv_iload_n hx hb dX7_inspect_21 rfl (lv_at hl 2 rfl) ?_
      obtain ⟨q3, hq3, hf⟩ := bd_x hf
      have hFc := freeS hD hS hA
      refine va_callv (va_runV (As := [.int p1, .int p2]) (rest := []) ⟨hx, hb, hml, hown, hG⟩ (c_X7_doInspect l D cI cZ a x p1 p2 H.size hq3) (cwV 2 hG (gV g_734 g_735 g_57 g_77 g_736) rfl rfl rfl (by decide +kernel) ⟨Nat.le_of_ble_eq_true rfl, Nat.le_of_ble_eq_true rfl⟩) ⟨pre_blind, va_recv hK hP (ci := 7) (q0 := 0) rfl rfl, fun U hU hW => ⟨rfl, pre_of hP hK hD hnw hU hW⟩⟩ rfl rfl hl.1 rfl (lv_room (Nat.le_of_ble_eq_true rfl)) dX7_inspect_22 ⟨Nat.le_of_ble_eq_true rfl, Nat.le_of_ble_eq_true rfl⟩) hS (fun q _ h => hFc q h) hFc (fun u t H locs ht hvm hw hB hz1 hk1 hS => ?_)
      have hw := hw.symm; subst hw
      obtain ⟨hP1, hD1⟩ := hB
      rw [ht] at hP1
      have hP := hP1
      have hD := hD1.weaken (fun _ q _ h => hFc q.1 h)
      refine lv_aload_n hx hb dX7_inspect_25 rfl (lv_at hl 0 rfl) ?_
      refine va_get (D := D) (ci := 7) (v := .ref (a 5)) (C := RX7) (T := TX7) (N := 32) hx hb hG inG7 hown hK hP 0 at_M_0_0 rfl 8 (by decide) (hG _ g_572) (fun _ h9 => h9) rfl dX7_inspect_26 ?_
      refine lv_iload_n hx hb dX7_inspect_29 rfl (lv_at hl 2 rfl) ?_
      obtain ⟨hb30, hf⟩ := gd hf
      refine va_iald (cA := cI) (n := 5) (f := q3 5) hx hb hK hP 5 0 at_M_0_5 rfl (inb_in hb30) dX7_inspect_30 ?_
      exact W.iret (v := (q3 5 (Int32.toNatClampNeg p2))) hx hb hr (fun t ht hW => ⟨⟨(q3 5 (Int32.toNatClampNeg p2)), q3, rfl, ⟨pr_1 hf, pr_2 hf⟩, by rw [ht]; exact hP, hD⟩, hS.F ht⟩) hS.2.2 dX7_inspect_31
    · have hf := if_t cc13 hf
      refine lv_ldc hx hb hown (hG _ g_676) dX7_inspect_16 ?_
      exact W.iret (v := (-1000000001 : Int32)) hx hb hr (fun t ht hW => ⟨⟨(-1000000001 : Int32), x, rfl, ⟨pr_1 hf, pr_2 hf⟩, by rw [ht]; exact hP, hD⟩, hS.F ht⟩) hS.2.2 dX7_inspect_18
def f_X7_belt (x : HC) (p1 : Int32) (p2 : Int32) : Option (Int32 × HC) := bd (f_X7_isFighter x p1) (fun (q1 : Int32) => (if q1 = 0 then some ((-1000000001 : Int32), x) else bd (f_X7_in (Int32.toInt64 p2) (0 : Int64) (99 : Int64)) (fun (q2 : Int32) => (if q2 = 0 then some ((-1000000002 : Int32), x) else (if inb ((0 : Int32) + p1) 141 then nm (x 1 (Int32.toNatClampNeg ((0 : Int32) + p1))) (fun (v3 : Int32) => (if inb ((0 : Int32) + p1) 141 then nm (sa x 1 ((0 : Int32) + p1) p2) (fun (X4 : HC) => some (v3, X4)) else none)) else none)))))
abbrev RM_X7_belt : Room := { frames := 2, cells := 0, slots := 0, locals := 46 }
set_option maxHeartbeats 4000000 in
set_option maxRecDepth 100000 in
theorem c_X7_belt (l : Launch) (D : va_G) (cI cZ : ClassId) (a : Nat → Nat) (x : HC) (p1 : Int32) (p2 : Int32) (sz : Nat) {r : Int32 × HC} (hf : f_X7_belt x p1 p2 = some r) : Met l yX7_belt (wM yX7_belt cX7_belt 4 (some .int)) RM_X7_belt (va_Pc [.ref (a 0), .int p1, .int p2] (pre D cI cZ (kM cI cZ a x) sz)) (QI D (va_A (kM cI cZ a x) sz) (fun (u : HC) => (kM cI cZ a u)) r) 0 0 (va_A (kM cI cZ a x) sz) := by
  unfold f_X7_belt at hf
  refine Met.ofW (cc := cX7_belt) (maxL := 4) (ret := (some .int)) (by decide) rfl ?_
  intro p e s m args below meth c s₁ B hml hv
  obtain ⟨rfl, hsz, hP, hK, hD0, hnw⟩ := hv
  have hx := B.exec
  have hb := B.bytes
  have hr := B.returns
  have hts := atoms_spec (ws := wM yX7_belt cX7_belt 4 (some .int)) B.pre
  have hG : ∀ w ∈ GW, w.before (([.ref (a 0), .int p1, .int p2] : List Value).toArray) s = true := fun w h => hts w (List.mem_cons_of_mem _ h)
  have hown : s.vm.findClass RX7 = some m.cls := findClass_of_methodNamed B.named
  have hlocks := B.notSynchronized
  subst hsz
  have hD := hD0.self (sz := s.heap.size)
  generalize hAe : va_A (kM cI cZ a x) s.heap.size = A at hD ⊢
  have hA : ∀ q : Nat, s.heap.size ≤ q → A q := fun q h => by rw [← hAe]; exact Or.inr h
  have hS : va_S A s.heap s.heap [] := va_S.rf
  have hl := lv_entry ([.ref (a 0), .int p1, .int p2]) (n := 4) (Nat.le_of_ble_eq_true rfl)
  rw [lg_entry_eq]
  generalize (lg_sl ([.ref (a 0), .int p1, .int p2]) ++ List.replicate (4 - (lg_sl ([.ref (a 0), .int p1, .int p2])).length) Slot.unset).toArray = ls at hl ⊢
  have hl : lv_has ls 4 [(0, .ref (a 0)), (1, .int p1), (2, .int p2)] := hl
  show W p l e RM_X7_belt s m (([.ref (a 0), .int p1, .int p2] : List Value).toArray) below meth c s.heap [] 0 0 (MQ below (QI D A (fun (u : HC) => (kM cI cZ a u)) r) (([.ref (a 0), .int p1, .int p2] : List Value).toArray) s 0 0 A) (F0 m 0 ls [])
  refine lv_aload_n hx hb dX7_belt_0 rfl (lv_at hl 0 rfl) ?_
  refine lv_iload_n hx hb dX7_belt_1 rfl (lv_at hl 1 rfl) ?_
  obtain ⟨q1, hq1, hf⟩ := bd_x hf
  have hFc := freeS hD hS hA
  refine va_calli (va_runV (As := [.int p1]) (rest := []) ⟨hx, hb, hml, hown, hG⟩ (c_X7_isFighter l D cI cZ a x p1 s.heap.size hq1) (cwV 1 hG (gV g_673 g_674 g_47 g_77 g_675) rfl rfl rfl (by decide +kernel) ⟨Nat.le_of_ble_eq_true rfl, Nat.le_of_ble_eq_true rfl⟩) ⟨pre_blind, va_recv hK hP (ci := 7) (q0 := 0) rfl rfl, fun U hU hW => ⟨rfl, pre_of hP hK hD hnw hU hW⟩⟩ rfl rfl hl.1 rfl (lv_room (Nat.le_of_ble_eq_true rfl)) dX7_belt_2 ⟨Nat.le_of_ble_eq_true rfl, Nat.le_of_ble_eq_true rfl⟩) hS (fun q _ h => hFc q h) hFc (fun v u t H locs ht hvm hw hB hz1 hk1 hS => ?_)
  have hw := hw.symm; subst hw
  obtain ⟨hP1, hD1⟩ := hB
  rw [ht] at hP1
  have hP := hP1
  have hD := hD1.weaken (fun _ q _ h => hFc q.1 h)
  refine lv_if_ne (tgt := 11) hx hb dX7_belt_5 (by decide) (fun cc5 => ?_) (fun cc5 => ?_)
  · have hf := if_f cc5 hf
    refine lv_iload_n hx hb dX7_belt_11 rfl (lv_at hl 2 rfl) ?_
    refine lv_i2l hx hb dX7_belt_12 rfl ?_
    refine lv_lconst (v := (0 : Int64)) hx hb dX7_belt_13 (by decide) ?_
    refine lv_ldc2 hx hb hown (hG _ g_741) dX7_belt_14 ?_
    obtain ⟨q2, hq2, hf⟩ := bd_x hf
    have hFc := va_free (wc := []) hD hS hA [] rfl
    refine va_calli (va_runS (As := [.long (Int32.toInt64 p2), .long (0 : Int64), .long (99 : Int64)]) (rest := []) ⟨hx, hb, hml, hown, hG⟩ (c_X7_in l D cI cZ (Int32.toInt64 p2) (0 : Int64) (99 : Int64) H.size hq2) (cwS 3 hG (gS g_602 g_603 g_77 g_604) rfl rfl rfl (by decide +kernel) ⟨Nat.le_of_ble_eq_true rfl, Nat.le_of_ble_eq_true rfl⟩) ⟨pre_blind, fun U hU hW => ⟨rfl, pre_of P_nil hK D_nil hnw hU hW⟩⟩ rfl rfl hl.1 rfl (lv_room (Nat.le_of_ble_eq_true rfl)) dX7_belt_17 ⟨Nat.le_of_ble_eq_true rfl, Nat.le_of_ble_eq_true rfl⟩) hS (fun q _ h => hFc q h) hFc (fun v u t H locs ht hvm hw hB hz1 hk1 hS => ?_)
    have hw := hw.symm; subst hw
    obtain ⟨hP1, hD1⟩ := hB
    rw [ht] at hP1
    obtain ⟨hP, hD⟩ := back hP hD [] rfl rfl hk1 hFc hP1 hD1
    refine lv_if_ne (tgt := 26) hx hb dX7_belt_20 (by decide) (fun cc20 => ?_) (fun cc20 => ?_)
    · have hf := if_f cc20 hf
      refine lv_aload_n hx hb dX7_belt_26 rfl (lv_at hl 0 rfl) ?_
      refine va_get (D := D) (ci := 7) (v := .ref (a 1)) (C := RX7) (T := TX7) (N := 32) hx hb hG inG7 hown hK hP 0 at_M_0_0 rfl 0 (by decide) (hG _ g_564) (fun _ h9 => h9) rfl dX7_belt_27 ?_
      refine lv_iconst (v := (0 : Int32)) hx hb dX7_belt_30 (by decide) ?_
      refine lv_iload_n hx hb dX7_belt_31 rfl (lv_at hl 1 rfl) ?_
      refine lv_iadd hx hb dX7_belt_32 ?_
      obtain ⟨hb33, hf⟩ := gd hf
      refine va_iald (cA := cI) (n := 141) (f := x 1) hx hb hK hP 1 0 at_M_0_1 rfl (inb_in hb33) dX7_belt_33 ?_
      refine lv_topi (fun v3 ev3 => ?_)
      have hf := nm_x ev3 hf
      refine lv_istore_n (lv' := [(3, .int v3), (0, .ref (a 0)), (1, .int p1), (2, .int p2)]) hx hb dX7_belt_34 rfl hl (by decide) rfl (fun ls hl => ?_)
      refine lv_aload_n hx hb dX7_belt_35 rfl (lv_at hl 1 rfl) ?_
      refine va_get (D := D) (ci := 7) (v := .ref (a 1)) (C := RX7) (T := TX7) (N := 32) hx hb hG inG7 hown hK hP 0 at_M_0_0 rfl 0 (by decide) (hG _ g_564) (fun _ h9 => h9) rfl dX7_belt_36 ?_
      refine lv_iconst (v := (0 : Int32)) hx hb dX7_belt_39 (by decide) ?_
      refine lv_iload_n hx hb dX7_belt_40 rfl (lv_at hl 2 rfl) ?_
      refine lv_iadd hx hb dX7_belt_41 ?_
      refine lv_iload_n hx hb dX7_belt_42 rfl (lv_at hl 3 rfl) ?_
      obtain ⟨hb43, hf⟩ := gd hf
      refine va_iast (cA := cI) (n := 141) (f := x 1) hx hb hK hP hD hS 1 0 at_M_0_1 rfl (inb_in hb43) dX7_belt_43 (fun H locs hP hD hS => ?_)
      obtain ⟨X4, eX4⟩ : ∃ y : HC, y = (sa x 1 ((0 : Int32) + p1) p2) := ⟨_, rfl⟩
      have hf := nm_x eX4 hf
      have hP := wP (sa_M_0_1.trans (congrArg (fun z : HC => (kM cI cZ a z)) eX4.symm)) hP
      have hD := wD (sa_M_0_1.trans (congrArg (fun z : HC => (kM cI cZ a z)) eX4.symm)) hD
      refine lv_iload_n hx hb dX7_belt_44 rfl (lv_at hl 0 rfl) ?_
      exact W.iret (v := v3) hx hb hr (fun t ht hW => ⟨⟨v3, X4, rfl, ⟨pr_1 hf, pr_2 hf⟩, by rw [ht]; exact hP, hD⟩, hS.F ht⟩) hS.2.2 dX7_belt_45
    · have hf := if_t cc20 hf
      refine lv_ldc hx hb hown (hG _ g_605) dX7_belt_23 ?_
      exact W.iret (v := (-1000000002 : Int32)) hx hb hr (fun t ht hW => ⟨⟨(-1000000002 : Int32), x, rfl, ⟨pr_1 hf, pr_2 hf⟩, by rw [ht]; exact hP, hD⟩, hS.F ht⟩) hS.2.2 dX7_belt_25
  · have hf := if_t cc5 hf
    refine lv_ldc hx hb hown (hG _ g_676) dX7_belt_8 ?_
    exact W.iret (v := (-1000000001 : Int32)) hx hb hr (fun t ht hW => ⟨⟨(-1000000001 : Int32), x, rfl, ⟨pr_1 hf, pr_2 hf⟩, by rw [ht]; exact hP, hD⟩, hS.F ht⟩) hS.2.2 dX7_belt_10
def f_X7_passes_j124   : Option (Int32) := some (0 : Int32)
def f_X7_passes_j120   : Option (Int32) := some (1 : Int32)
def f_X7_passes_j90 (x : HC) (p1 : Int32) (p4 : Int32) (v1 : Int32) (v4 : Int32) : Option (Int32) := (if inb p1 5 then (if (x 4 (Int32.toNatClampNeg p1)) = (4 : Int32) then f_X7_passes_j124 else (if inb p1 5 then (if v4 ≤ (x 5 (Int32.toNatClampNeg p1)) then f_X7_passes_j120 else (if p4 ≤ v1 then f_X7_passes_j124 else f_X7_passes_j120)) else none)) else none)
def f_X7_passes_j70 (rc19 : Int32 → Int32 → Option (Int32)) (v2 : Int32) (v3 : Int32) (v6 : Int32) : Option (Int32) := nm (v2 - v6) (fun (v7 : Int32) => nm (v3 + (1 : Int32)) (fun (v8 : Int32) => rc19 v7 v8))
def f_X7_passes_j69 (rc19 : Int32 → Int32 → Option (Int32)) (v2 : Int32) (v3 : Int32)  : Option (Int32) := f_X7_passes_j70 rc19 v2 v3 (0 : Int32)
def f_X7_passes_b19 (x : HC) (p1 : Int32) (p3 : Int32) (p4 : Int32) (v1 : Int32) (rc19 : Int32 → Int32 → Option (Int32)) (v2 : Int32) (v3 : Int32) : Option (Int32) := (if (x 0 13) ≤ v3 then (if 0 ≤ v2 then f_X7_passes_j90 x p1 p4 v1 v2 else f_X7_passes_j90 x p1 p4 v1 (0 : Int32)) else bd (f_X7_has p3 v3) (fun (q5 : Int32) => (if q5 = 0 then f_X7_passes_j69 rc19 v2 v3 else (if inb (((3 : Int32) * v3) + (2 : Int32)) 12 then (if p4 < (x 8 (Int32.toNatClampNeg (((3 : Int32) * v3) + (2 : Int32)))) then f_X7_passes_j69 rc19 v2 v3 else (if inb (((3 : Int32) * v3) + (1 : Int32)) 12 then f_X7_passes_j70 rc19 v2 v3 (x 8 (Int32.toNatClampNeg (((3 : Int32) * v3) + (1 : Int32)))) else none)) else none))))
def f_X7_passes (x : HC) (p1 : Int32) (p2 : Int32) (p3 : Int32) (p4 : Int32) : Option (Int32) := (if inb (((4 : Int32) * p2) + (1 : Int32)) 24 then nm (x 7 (Int32.toNatClampNeg (((4 : Int32) * p2) + (1 : Int32)))) (fun (v1 : Int32) => lp (fun _ _ => none : Int32 → Int32 → Option (Int32)) (f_X7_passes_b19 x p1 p3 p4 v1) FU v1 (0 : Int32)) else none)
abbrev RM_X7_passes : Room := { frames := 1, cells := 0, slots := 0, locals := 21 }
set_option maxHeartbeats 4000000 in
set_option maxRecDepth 100000 in
theorem c_X7_passes (l : Launch) (D : va_G) (cI cZ : ClassId) (a : Nat → Nat) (x : HC) (p1 : Int32) (p2 : Int32) (p3 : Int32) (p4 : Int32) (sz : Nat) {r : Int32} (hf : f_X7_passes x p1 p2 p3 p4 = some r) : Met l yX7_passes (wM yX7_passes cX7_passes 8 (some .boolean)) RM_X7_passes (va_Pc [.ref (a 0), .int p1, .int p2, .int p3, .int p4] (pre D cI cZ (kM cI cZ a x) sz)) (QI0 D (va_A (kM cI cZ a x) sz) (kM cI cZ a x) r) 0 0 (va_A (kM cI cZ a x) sz) := by
  unfold f_X7_passes at hf
  refine Met.ofW (cc := cX7_passes) (maxL := 8) (ret := (some .boolean)) (by decide) rfl ?_
  intro p e s m args below meth c s₁ B hml hv
  obtain ⟨rfl, hsz, hP, hK, hD0, hnw⟩ := hv
  have hx := B.exec
  have hb := B.bytes
  have hr := B.returns
  have hts := atoms_spec (ws := wM yX7_passes cX7_passes 8 (some .boolean)) B.pre
  have hG : ∀ w ∈ GW, w.before (([.ref (a 0), .int p1, .int p2, .int p3, .int p4] : List Value).toArray) s = true := fun w h => hts w (List.mem_cons_of_mem _ h)
  have hown : s.vm.findClass RX7 = some m.cls := findClass_of_methodNamed B.named
  have hlocks := B.notSynchronized
  subst hsz
  have hD := hD0.self (sz := s.heap.size)
  generalize hAe : va_A (kM cI cZ a x) s.heap.size = A at hD ⊢
  have hA : ∀ q : Nat, s.heap.size ≤ q → A q := fun q h => by rw [← hAe]; exact Or.inr h
  have hS : va_S A s.heap s.heap [] := va_S.rf
  have hl := lv_entry ([.ref (a 0), .int p1, .int p2, .int p3, .int p4]) (n := 8) (Nat.le_of_ble_eq_true rfl)
  rw [lg_entry_eq]
  generalize (lg_sl ([.ref (a 0), .int p1, .int p2, .int p3, .int p4]) ++ List.replicate (8 - (lg_sl ([.ref (a 0), .int p1, .int p2, .int p3, .int p4])).length) Slot.unset).toArray = ls at hl ⊢
  have hl : lv_has ls 8 [(0, .ref (a 0)), (1, .int p1), (2, .int p2), (3, .int p3), (4, .int p4)] := hl
  show W p l e RM_X7_passes s m (([.ref (a 0), .int p1, .int p2, .int p3, .int p4] : List Value).toArray) below meth c s.heap [] 0 0 (MQ below (QI0 D A (kM cI cZ a x) r) (([.ref (a 0), .int p1, .int p2, .int p3, .int p4] : List Value).toArray) s 0 0 A) (F0 m 0 ls [])
  refine lv_aload_n hx hb dX7_passes_0 rfl (lv_at hl 0 rfl) ?_
  refine va_get (D := D) (ci := 7) (v := .ref (a 7)) (C := RX7) (T := TX7) (N := 32) hx hb hG inG7 hown hK hP 0 at_M_0_0 rfl 12 (by decide) (hG _ g_576) (fun _ h9 => h9) rfl dX7_passes_1 ?_
  refine lv_iconst (v := (4 : Int32)) hx hb dX7_passes_4 (by decide) ?_
  refine lv_iload_n hx hb dX7_passes_5 rfl (lv_at hl 2 rfl) ?_
  refine lv_imul hx hb dX7_passes_6 ?_
  refine lv_iconst (v := (1 : Int32)) hx hb dX7_passes_7 (by decide) ?_
  refine lv_iadd hx hb dX7_passes_8 ?_
  obtain ⟨hb9, hf⟩ := gd hf
  refine va_iald (cA := cI) (n := 24) (f := x 7) hx hb hK hP 7 0 at_M_0_7 rfl (inb_in hb9) dX7_passes_9 ?_
  refine lv_topi (fun v1 ev1 => ?_)
  have hf := nm_x ev1 hf
  refine lv_istore (lv' := [(5, .int v1), (0, .ref (a 0)), (1, .int p1), (2, .int p2), (3, .int p3), (4, .int p4)]) hx hb dX7_passes_10 hl (by decide) rfl (fun ls hl => ?_)
  refine lv_iload hx hb dX7_passes_12 (lv_at hl 0 rfl) ?_
  refine lv_istore (lv' := [(6, .int v1), (5, .int v1), (0, .ref (a 0)), (1, .int p1), (2, .int p2), (3, .int p3), (4, .int p4)]) hx hb dX7_passes_14 hl (by decide) rfl (fun ls hl => ?_)
  refine lv_iconst (v := (0 : Int32)) hx hb dX7_passes_16 (by decide) ?_
  refine lv_istore (lv' := [(7, .int (0 : Int32)), (6, .int v1), (5, .int v1), (0, .ref (a 0)), (1, .int p1), (2, .int p2), (3, .int p3), (4, .int p4)]) hx hb dX7_passes_17 hl (by decide) rfl (fun ls hl => ?_)
  have L19 : ∀ (n : Nat) (v2 : Int32) (v3 : Int32) (H : Heap) (locs : List Loc) (ls : Array Slot), va_P D vwCl (kM cI cZ a x) H → va_D A (kM cI cZ a x) → va_S A s.heap H locs → lv_has ls 8 [(0, .ref (a 0)), (1, .int p1), (3, .int p3), (4, .int p4), (5, .int v1), (6, .int v2), (7, .int v3)] → lp (fun _ _ => none : Int32 → Int32 → Option (Int32)) (f_X7_passes_b19 x p1 p3 p4 v1) n v2 v3 = some r → W p l e RM_X7_passes s m (([.ref (a 0), .int p1, .int p2, .int p3, .int p4] : List Value).toArray) below meth c H locs 0 0 (MQ below (QI0 D A (kM cI cZ a x) r) (([.ref (a 0), .int p1, .int p2, .int p3, .int p4] : List Value).toArray) s 0 0 A) (F0 m 19 ls []) := by
    intro n
    induction n with
    | zero => intro v2 v3 H locs ls _ _ _ _ hf; cases (show (none : Option (Int32)) = some r from hf)
    | succ n ih19 =>
      intro v2 v3 H locs ls hP hD hS hl hf
      have hf : (f_X7_passes_b19 x p1 p3 p4 v1) (lp (fun _ _ => none : Int32 → Int32 → Option (Int32)) (f_X7_passes_b19 x p1 p3 p4 v1) n) v2 v3 = some r := hf
      generalize lp (fun _ _ => none : Int32 → Int32 → Option (Int32)) (f_X7_passes_b19 x p1 p3 p4 v1) n = rc19 at ih19 hf
      unfold f_X7_passes_b19 at hf
      refine lv_iload hx hb dX7_passes_19 (lv_at hl 6 rfl) ?_
      refine lv_aload_n hx hb dX7_passes_21 rfl (lv_at hl 0 rfl) ?_
      refine va_get (D := D) (ci := 7) (v := .int (x 0 13)) (C := RX7) (T := TX7) (N := 32) hx hb hG inG7 hown hK hP 0 at_M_0_0 rfl 13 (by decide) (hG _ g_577) (fun _ h9 => h9) rfl dX7_passes_22 ?_
      refine lv_icmp_ge (tgt := 79) hx hb dX7_passes_25 (by decide) (fun cc25 => ?_) (fun cc25 => ?_)
      · have hf := if_t cc25 hf
        refine lv_iload hx hb dX7_passes_79 (lv_at hl 5 rfl) ?_
        have J90 : ∀ (v4 : Int32) (H : Heap) (locs : List Loc) (ls : Array Slot), va_P D vwCl (kM cI cZ a x) H → va_D A (kM cI cZ a x) → va_S A s.heap H locs → lv_has ls 8 [(0, .ref (a 0)), (1, .int p1), (4, .int p4), (5, .int v1)] → f_X7_passes_j90 x p1 p4 v1 v4 = some r → W p l e RM_X7_passes s m (([.ref (a 0), .int p1, .int p2, .int p3, .int p4] : List Value).toArray) below meth c H locs 0 0 (MQ below (QI0 D A (kM cI cZ a x) r) (([.ref (a 0), .int p1, .int p2, .int p3, .int p4] : List Value).toArray) s 0 0 A) (F0 m 90 ls [.int v4]) := by
          intro v4 H locs ls hP hD hS hl hf
          unfold f_X7_passes_j90 at hf
          refine lv_istore (lv' := [(6, .int v4), (0, .ref (a 0)), (1, .int p1), (4, .int p4), (5, .int v1)]) hx hb dX7_passes_90 hl (by decide) rfl (fun ls hl => ?_)
          refine lv_aload_n hx hb dX7_passes_92 rfl (lv_at hl 1 rfl) ?_
          refine va_get (D := D) (ci := 7) (v := .ref (a 4)) (C := RX7) (T := TX7) (N := 32) hx hb hG inG7 hown hK hP 0 at_M_0_0 rfl 7 (by decide) (hG _ g_571) (fun _ h9 => h9) rfl dX7_passes_93 ?_
          refine lv_iload_n hx hb dX7_passes_96 rfl (lv_at hl 2 rfl) ?_
          obtain ⟨hb97, hf⟩ := gd hf
          refine va_iald (cA := cI) (n := 5) (f := x 4) hx hb hK hP 4 0 at_M_0_4 rfl (inb_in hb97) dX7_passes_97 ?_
          refine lv_iconst (v := (4 : Int32)) hx hb dX7_passes_98 (by decide) ?_
          have J124 : ∀  (H : Heap) (locs : List Loc) (ls : Array Slot), va_P D vwCl (kM cI cZ a x) H → va_D A (kM cI cZ a x) → va_S A s.heap H locs → lv_has ls 8 [] → f_X7_passes_j124  = some r → W p l e RM_X7_passes s m (([.ref (a 0), .int p1, .int p2, .int p3, .int p4] : List Value).toArray) below meth c H locs 0 0 (MQ below (QI0 D A (kM cI cZ a x) r) (([.ref (a 0), .int p1, .int p2, .int p3, .int p4] : List Value).toArray) s 0 0 A) (F0 m 124 ls []) := by
            intro  H locs ls hP hD hS hl hf
            unfold f_X7_passes_j124 at hf
            refine lv_iconst (v := (0 : Int32)) hx hb dX7_passes_124 (by decide) ?_
            exact W.zret (v := (0 : Int32)) hx hb hr (by decide) (fun t ht hW => ⟨⟨(0 : Int32), (), rfl, Option.some.inj hf, by rw [ht]; exact hP, hD⟩, hS.F ht⟩) hS.2.2 dX7_passes_125
          refine lv_icmp_eq (tgt := 124) hx hb dX7_passes_99 (by decide) (fun cc99 => ?_) (fun cc99 => ?_)
          · have hf := if_t cc99 hf
            exact J124  _ _ _ hP hD hS (lv_sub hl [] rfl) hf
          · have hf := if_f cc99 hf
            refine lv_aload_n hx hb dX7_passes_102 rfl (lv_at hl 1 rfl) ?_
            refine va_get (D := D) (ci := 7) (v := .ref (a 5)) (C := RX7) (T := TX7) (N := 32) hx hb hG inG7 hown hK hP 0 at_M_0_0 rfl 8 (by decide) (hG _ g_572) (fun _ h9 => h9) rfl dX7_passes_103 ?_
            refine lv_iload_n hx hb dX7_passes_106 rfl (lv_at hl 2 rfl) ?_
            obtain ⟨hb107, hf⟩ := gd hf
            refine va_iald (cA := cI) (n := 5) (f := x 5) hx hb hK hP 5 0 at_M_0_5 rfl (inb_in hb107) dX7_passes_107 ?_
            refine lv_iload hx hb dX7_passes_108 (lv_at hl 0 rfl) ?_
            have J120 : ∀  (H : Heap) (locs : List Loc) (ls : Array Slot), va_P D vwCl (kM cI cZ a x) H → va_D A (kM cI cZ a x) → va_S A s.heap H locs → lv_has ls 8 [] → f_X7_passes_j120  = some r → W p l e RM_X7_passes s m (([.ref (a 0), .int p1, .int p2, .int p3, .int p4] : List Value).toArray) below meth c H locs 0 0 (MQ below (QI0 D A (kM cI cZ a x) r) (([.ref (a 0), .int p1, .int p2, .int p3, .int p4] : List Value).toArray) s 0 0 A) (F0 m 120 ls []) := by
              intro  H locs ls hP hD hS hl hf
              unfold f_X7_passes_j120 at hf
              refine lv_iconst (v := (1 : Int32)) hx hb dX7_passes_120 (by decide) ?_
              refine lv_goto (tgt := 125) hx hb dX7_passes_121 (by decide) ?_
              exact W.zret (v := (1 : Int32)) hx hb hr (by decide) (fun t ht hW => ⟨⟨(1 : Int32), (), rfl, Option.some.inj hf, by rw [ht]; exact hP, hD⟩, hS.F ht⟩) hS.2.2 dX7_passes_125
            refine lv_icmp_ge (tgt := 120) hx hb dX7_passes_110 (by decide) (fun cc110 => ?_) (fun cc110 => ?_)
            · have hf := if_t cc110 hf
              exact J120  _ _ _ hP hD hS (lv_sub hl [] rfl) hf
            · have hf := if_f cc110 hf
              refine lv_iload hx hb dX7_passes_113 (lv_at hl 3 rfl) ?_
              refine lv_iload hx hb dX7_passes_115 (lv_at hl 4 rfl) ?_
              refine lv_icmp_le (tgt := 124) hx hb dX7_passes_117 (by decide) (fun cc117 => ?_) (fun cc117 => ?_)
              · have hf := if_t cc117 hf
                exact J124  _ _ _ hP hD hS (lv_sub hl [] rfl) hf
              · have hf := if_f cc117 hf
                exact J120  _ _ _ hP hD hS (lv_sub hl [] rfl) hf
        refine lv_if_ge (tgt := 88) hx hb dX7_passes_81 (by decide) (fun cc81 => ?_) (fun cc81 => ?_)
        · have hf := if_t cc81 hf
          refine lv_iload hx hb dX7_passes_88 (lv_at hl 5 rfl) ?_
          exact J90 v2 _ _ _ hP hD hS (lv_sub hl [0, 1, 3, 4] rfl) hf
        · have hf := if_f cc81 hf
          refine lv_iconst (v := (0 : Int32)) hx hb dX7_passes_84 (by decide) ?_
          refine lv_goto (tgt := 90) hx hb dX7_passes_85 (by decide) ?_
          exact J90 (0 : Int32) _ _ _ hP hD hS (lv_sub hl [0, 1, 3, 4] rfl) hf
      · have hf := if_f cc25 hf
        refine lv_iload hx hb dX7_passes_28 (lv_at hl 5 rfl) ?_
        refine lv_iload_n hx hb dX7_passes_30 rfl (lv_at hl 2 rfl) ?_
        refine lv_iload hx hb dX7_passes_31 (lv_at hl 6 rfl) ?_
        obtain ⟨q5, hq5, hf⟩ := bd_x hf
        have hFc := va_free (wc := []) hD hS hA [] rfl
        refine va_calli (va_runS (As := [.int p3, .int v3]) (rest := [.int v2]) ⟨hx, hb, hml, hown, hG⟩ (c_X7_has l D cI cZ p3 v3 H.size hq5) (cwS 2 hG (gS g_643 g_644 g_77 g_645) rfl rfl rfl (by decide +kernel) ⟨Nat.le_of_ble_eq_true rfl, Nat.le_of_ble_eq_true rfl⟩) ⟨pre_blind, fun U hU hW => ⟨rfl, pre_of P_nil hK D_nil hnw hU hW⟩⟩ rfl rfl hl.1 rfl (lv_room (Nat.le_of_ble_eq_true rfl)) dX7_passes_33 ⟨Nat.le_of_ble_eq_true rfl, Nat.le_of_ble_eq_true rfl⟩) hS (fun q _ h => hFc q h) hFc (fun v u t H locs ht hvm hw hB hz1 hk1 hS => ?_)
        have hw := hw.symm; subst hw
        obtain ⟨hP1, hD1⟩ := hB
        rw [ht] at hP1
        obtain ⟨hP, hD⟩ := back hP hD [] rfl rfl hk1 hFc hP1 hD1
        have J70 : ∀ (v6 : Int32) (H : Heap) (locs : List Loc) (ls : Array Slot), va_P D vwCl (kM cI cZ a x) H → va_D A (kM cI cZ a x) → va_S A s.heap H locs → lv_has ls 8 [(0, .ref (a 0)), (1, .int p1), (3, .int p3), (4, .int p4), (5, .int v1), (7, .int v3)] → f_X7_passes_j70 rc19 v2 v3 v6 = some r → W p l e RM_X7_passes s m (([.ref (a 0), .int p1, .int p2, .int p3, .int p4] : List Value).toArray) below meth c H locs 0 0 (MQ below (QI0 D A (kM cI cZ a x) r) (([.ref (a 0), .int p1, .int p2, .int p3, .int p4] : List Value).toArray) s 0 0 A) (F0 m 70 ls [.int v6, .int v2]) := by
          intro v6 H locs ls hP hD hS hl hf
          unfold f_X7_passes_j70 at hf
          refine lv_isub hx hb dX7_passes_70 ?_
          refine lv_topi (fun v7 ev7 => ?_)
          have hf := nm_x ev7 hf
          refine lv_istore (lv' := [(6, .int v7), (0, .ref (a 0)), (1, .int p1), (3, .int p3), (4, .int p4), (5, .int v1), (7, .int v3)]) hx hb dX7_passes_71 hl (by decide) rfl (fun ls hl => ?_)
          obtain ⟨v8, ev8⟩ : ∃ y : Int32, y = (v3 + (1 : Int32)) := ⟨_, rfl⟩
          have hf := nm_x ev8 hf
          refine lv_iinc (v := v8) (lv' := [(7, .int v8), (6, .int v7), (0, .ref (a 0)), (1, .int p1), (3, .int p3), (4, .int p4), (5, .int v1)]) hx hb dX7_passes_73 hl (k := 6) rfl (by rw [ev8]; rfl) (by decide) rfl (fun ls hl => ?_)
          refine lv_goto (tgt := 19) hx hb dX7_passes_76 (by decide) ?_
          exact ih19 v7 v8 _ _ _ hP hD hS (lv_sub hl [2, 3, 4, 5, 6, 1, 0] rfl) hf
        have J69 : ∀  (H : Heap) (locs : List Loc) (ls : Array Slot), va_P D vwCl (kM cI cZ a x) H → va_D A (kM cI cZ a x) → va_S A s.heap H locs → lv_has ls 8 [(0, .ref (a 0)), (1, .int p1), (3, .int p3), (4, .int p4), (5, .int v1), (7, .int v3)] → f_X7_passes_j69 rc19 v2 v3  = some r → W p l e RM_X7_passes s m (([.ref (a 0), .int p1, .int p2, .int p3, .int p4] : List Value).toArray) below meth c H locs 0 0 (MQ below (QI0 D A (kM cI cZ a x) r) (([.ref (a 0), .int p1, .int p2, .int p3, .int p4] : List Value).toArray) s 0 0 A) (F0 m 69 ls [.int v2]) := by
          intro  H locs ls hP hD hS hl hf
          unfold f_X7_passes_j69 at hf
          refine lv_iconst (v := (0 : Int32)) hx hb dX7_passes_69 (by decide) ?_
          exact J70 (0 : Int32) _ _ _ hP hD hS (lv_sub hl [0, 1, 2, 3, 4, 5] rfl) hf
        refine lv_if_eq (tgt := 69) hx hb dX7_passes_36 (by decide) (fun cc36 => ?_) (fun cc36 => ?_)
        · have hf := if_t cc36 hf
          exact J69  _ _ _ hP hD hS (lv_sub hl [0, 1, 2, 3, 4, 6] rfl) hf
        · have hf := if_f cc36 hf
          refine lv_aload_n hx hb dX7_passes_39 rfl (lv_at hl 0 rfl) ?_
          refine va_get (D := D) (ci := 7) (v := .ref (a 8)) (C := RX7) (T := TX7) (N := 32) hx hb hG inG7 hown hK hP 0 at_M_0_0 rfl 14 (by decide) (hG _ g_578) (fun _ h9 => h9) rfl dX7_passes_40 ?_
          refine lv_iconst (v := (3 : Int32)) hx hb dX7_passes_43 (by decide) ?_
          refine lv_iload hx hb dX7_passes_44 (lv_at hl 6 rfl) ?_
          refine lv_imul hx hb dX7_passes_46 ?_
          refine lv_iconst (v := (2 : Int32)) hx hb dX7_passes_47 (by decide) ?_
          refine lv_iadd hx hb dX7_passes_48 ?_
          obtain ⟨hb49, hf⟩ := gd hf
          refine va_iald (cA := cI) (n := 12) (f := x 8) hx hb hK hP 8 0 at_M_0_8 rfl (inb_in hb49) dX7_passes_49 ?_
          refine lv_iload hx hb dX7_passes_50 (lv_at hl 3 rfl) ?_
          refine lv_icmp_gt (tgt := 69) hx hb dX7_passes_52 (by decide) (fun cc52 => ?_) (fun cc52 => ?_)
          · have hf := if_t cc52 hf
            exact J69  _ _ _ hP hD hS (lv_sub hl [0, 1, 2, 3, 4, 6] rfl) hf
          · have hf := if_f cc52 hf
            refine lv_aload_n hx hb dX7_passes_55 rfl (lv_at hl 0 rfl) ?_
            refine va_get (D := D) (ci := 7) (v := .ref (a 8)) (C := RX7) (T := TX7) (N := 32) hx hb hG inG7 hown hK hP 0 at_M_0_0 rfl 14 (by decide) (hG _ g_578) (fun _ h9 => h9) rfl dX7_passes_56 ?_
            refine lv_iconst (v := (3 : Int32)) hx hb dX7_passes_59 (by decide) ?_
            refine lv_iload hx hb dX7_passes_60 (lv_at hl 6 rfl) ?_
            refine lv_imul hx hb dX7_passes_62 ?_
            refine lv_iconst (v := (1 : Int32)) hx hb dX7_passes_63 (by decide) ?_
            refine lv_iadd hx hb dX7_passes_64 ?_
            obtain ⟨hb65, hf⟩ := gd hf
            refine va_iald (cA := cI) (n := 12) (f := x 8) hx hb hK hP 8 0 at_M_0_8 rfl (inb_in hb65) dX7_passes_65 ?_
            refine lv_goto (tgt := 70) hx hb dX7_passes_66 (by decide) ?_
            exact J70 (x 8 (Int32.toNatClampNeg (((3 : Int32) * v3) + (1 : Int32)))) _ _ _ hP hD hS (lv_sub hl [0, 1, 2, 3, 4, 6] rfl) hf
  exact L19 FU v1 (0 : Int32) _ _ _ hP hD hS (lv_sub hl [3, 4, 6, 7, 2, 1, 0] rfl) hf
def f_X7_attempt_b159 (p1 : Int32) (p2 : Int32) (rc159 : Int32 → HC → Option (Int32 × HC)) (v11 : Int32) (X12 : HC) : Option (Int32 × HC) := (if (X12 0 5) ≤ v11 then some ((1 : Int32), X12) else bd (f_X7_thought X12 v11 p1) (fun (q13 : Int32) => (if inb (((4 : Int32) * p2) + (3 : Int32)) 24 then bd (f_X7_think X12 v11 p1 (q13 + (X12 7 (Int32.toNatClampNeg (((4 : Int32) * p2) + (3 : Int32)))))) (fun (q14 : HC) => nm (v11 + (1 : Int32)) (fun (v15 : Int32) => rc159 v15 q14)) else none)))
def f_X7_attempt (x : HC) (p1 : Int32) (p2 : Int32) (p3 : Int32) : Option (Int32 × HC) := bd (f_X7_isFighter x p1) (fun (q1 : Int32) => (if q1 = 0 then some ((-1000000001 : Int32), x) else bd (f_X7_isTask x p2) (fun (q2 : Int32) => (if q2 = 0 then some ((-1000000001 : Int32), x) else bd (f_X7_in (Int32.toInt64 p3) (0 : Int64) (Int32.toInt64 (((1 : Int32) <<< ((x 0 13) &&& 31)) - (1 : Int32)))) (fun (q3 : Int32) => (if q3 = 0 then some ((-1000000001 : Int32), x) else (if inb ((35 : Int32) + p1) 141 then bd (f_X7_has (x 1 (Int32.toNatClampNeg ((35 : Int32) + p1))) p2) (fun (q4 : Int32) => (if q4 = 0 then bd (f_X7_tricksOf x p2) (fun (q5 : Int32) => (if (p3 &&& (q5 ^^^ (-1 : Int32))) = 0 then (if inb ((40 : Int32) + p1) 141 then (if (p3 &&& (x 1 (Int32.toNatClampNeg ((40 : Int32) + p1)))) = 0 then (if inb ((4 : Int32) * p2) 24 then nm (x 7 (Int32.toNatClampNeg ((4 : Int32) * p2))) (fun (v6 : Int32) => bd (f_X7_thought x v6 p1) (fun (q7 : Int32) => bd (f_X7_passes x p1 p2 p3 q7) (fun (q8 : Int32) => (if inb ((40 : Int32) + p1) 141 then (if inb ((40 : Int32) + p1) 141 then nm (sa x 1 ((40 : Int32) + p1) ((x 1 (Int32.toNatClampNeg ((40 : Int32) + p1))) ||| p3)) (fun (X9 : HC) => (if q8 = 0 then (if inb p1 5 then bd (f_X7_think X9 v6 p1 (X9 5 (Int32.toNatClampNeg p1))) (fun (q16 : HC) => some ((0 : Int32), q16)) else none) else (if inb ((35 : Int32) + p1) 141 then (if inb ((35 : Int32) + p1) 141 then nm (sa X9 1 ((35 : Int32) + p1) ((X9 1 (Int32.toNatClampNeg ((35 : Int32) + p1))) ||| ((1 : Int32) <<< (p2 &&& 31)))) (fun (X10 : HC) => lp (fun _ _ => none : Int32 → HC → Option (Int32 × HC)) (f_X7_attempt_b159 p1 p2) FU (0 : Int32) X10) else none) else none))) else none) else none)))) else none) else some ((-1000000003 : Int32), x)) else none) else some ((-1000000003 : Int32), x))) else some ((-1000000003 : Int32), x))) else none)))))))
abbrev RM_X7_attempt : Room := { frames := 2, cells := 0, slots := 0, locals := 48 }
set_option maxHeartbeats 4000000 in
set_option maxRecDepth 100000 in
theorem c_X7_attempt (l : Launch) (D : va_G) (cI cZ : ClassId) (a : Nat → Nat) (x : HC) (p1 : Int32) (p2 : Int32) (p3 : Int32) (sz : Nat) {r : Int32 × HC} (hf : f_X7_attempt x p1 p2 p3 = some r) : Met l yX7_attempt (wM yX7_attempt cX7_attempt 7 (some .int)) RM_X7_attempt (va_Pc [.ref (a 0), .int p1, .int p2, .int p3] (pre D cI cZ (kM cI cZ a x) sz)) (QI D (va_A (kM cI cZ a x) sz) (fun (u : HC) => (kM cI cZ a u)) r) 0 0 (va_A (kM cI cZ a x) sz) := by
  unfold f_X7_attempt at hf
  refine Met.ofW (cc := cX7_attempt) (maxL := 7) (ret := (some .int)) (by decide) rfl ?_
  intro p e s m args below meth c s₁ B hml hv
  obtain ⟨rfl, hsz, hP, hK, hD0, hnw⟩ := hv
  have hx := B.exec
  have hb := B.bytes
  have hr := B.returns
  have hts := atoms_spec (ws := wM yX7_attempt cX7_attempt 7 (some .int)) B.pre
  have hG : ∀ w ∈ GW, w.before (([.ref (a 0), .int p1, .int p2, .int p3] : List Value).toArray) s = true := fun w h => hts w (List.mem_cons_of_mem _ h)
  have hown : s.vm.findClass RX7 = some m.cls := findClass_of_methodNamed B.named
  have hlocks := B.notSynchronized
  subst hsz
  have hD := hD0.self (sz := s.heap.size)
  generalize hAe : va_A (kM cI cZ a x) s.heap.size = A at hD ⊢
  have hA : ∀ q : Nat, s.heap.size ≤ q → A q := fun q h => by rw [← hAe]; exact Or.inr h
  have hS : va_S A s.heap s.heap [] := va_S.rf
  have hl := lv_entry ([.ref (a 0), .int p1, .int p2, .int p3]) (n := 7) (Nat.le_of_ble_eq_true rfl)
  rw [lg_entry_eq]
  generalize (lg_sl ([.ref (a 0), .int p1, .int p2, .int p3]) ++ List.replicate (7 - (lg_sl ([.ref (a 0), .int p1, .int p2, .int p3])).length) Slot.unset).toArray = ls at hl ⊢
  have hl : lv_has ls 7 [(0, .ref (a 0)), (1, .int p1), (2, .int p2), (3, .int p3)] := hl
  show W p l e RM_X7_attempt s m (([.ref (a 0), .int p1, .int p2, .int p3] : List Value).toArray) below meth c s.heap [] 0 0 (MQ below (QI D A (fun (u : HC) => (kM cI cZ a u)) r) (([.ref (a 0), .int p1, .int p2, .int p3] : List Value).toArray) s 0 0 A) (F0 m 0 ls [])
  refine lv_aload_n hx hb dX7_attempt_0 rfl (lv_at hl 0 rfl) ?_
  refine lv_iload_n hx hb dX7_attempt_1 rfl (lv_at hl 1 rfl) ?_
  obtain ⟨q1, hq1, hf⟩ := bd_x hf
  have hFc := freeS hD hS hA
  refine va_calli (va_runV (As := [.int p1]) (rest := []) ⟨hx, hb, hml, hown, hG⟩ (c_X7_isFighter l D cI cZ a x p1 s.heap.size hq1) (cwV 1 hG (gV g_673 g_674 g_47 g_77 g_675) rfl rfl rfl (by decide +kernel) ⟨Nat.le_of_ble_eq_true rfl, Nat.le_of_ble_eq_true rfl⟩) ⟨pre_blind, va_recv hK hP (ci := 7) (q0 := 0) rfl rfl, fun U hU hW => ⟨rfl, pre_of hP hK hD hnw hU hW⟩⟩ rfl rfl hl.1 rfl (lv_room (Nat.le_of_ble_eq_true rfl)) dX7_attempt_2 ⟨Nat.le_of_ble_eq_true rfl, Nat.le_of_ble_eq_true rfl⟩) hS (fun q _ h => hFc q h) hFc (fun v u t H locs ht hvm hw hB hz1 hk1 hS => ?_)
  have hw := hw.symm; subst hw
  obtain ⟨hP1, hD1⟩ := hB
  rw [ht] at hP1
  have hP := hP1
  have hD := hD1.weaken (fun _ q _ h => hFc q.1 h)
  refine lv_if_eq (tgt := 34) hx hb dX7_attempt_5 (by decide) (fun cc5 => ?_) (fun cc5 => ?_)
  · have hf := if_t cc5 hf
    refine lv_ldc hx hb hown (hG _ g_676) dX7_attempt_34 ?_
    exact W.iret (v := (-1000000001 : Int32)) hx hb hr (fun t ht hW => ⟨⟨(-1000000001 : Int32), x, rfl, ⟨pr_1 hf, pr_2 hf⟩, by rw [ht]; exact hP, hD⟩, hS.F ht⟩) hS.2.2 dX7_attempt_36
  · have hf := if_f cc5 hf
    refine lv_aload_n hx hb dX7_attempt_8 rfl (lv_at hl 0 rfl) ?_
    refine lv_iload_n hx hb dX7_attempt_9 rfl (lv_at hl 2 rfl) ?_
    obtain ⟨q2, hq2, hf⟩ := bd_x hf
    have hFc := freeS hD hS hA
    refine va_calli (va_runV (As := [.int p2]) (rest := []) ⟨hx, hb, hml, hown, hG⟩ (c_X7_isTask l D cI cZ a x p2 H.size hq2) (cwV 1 hG (gV g_701 g_702 g_52 g_77 g_703) rfl rfl rfl (by decide +kernel) ⟨Nat.le_of_ble_eq_true rfl, Nat.le_of_ble_eq_true rfl⟩) ⟨pre_blind, va_recv hK hP (ci := 7) (q0 := 0) rfl rfl, fun U hU hW => ⟨rfl, pre_of hP hK hD hnw hU hW⟩⟩ rfl rfl hl.1 rfl (lv_room (Nat.le_of_ble_eq_true rfl)) dX7_attempt_10 ⟨Nat.le_of_ble_eq_true rfl, Nat.le_of_ble_eq_true rfl⟩) hS (fun q _ h => hFc q h) hFc (fun v u t H locs ht hvm hw hB hz1 hk1 hS => ?_)
    have hw := hw.symm; subst hw
    obtain ⟨hP1, hD1⟩ := hB
    rw [ht] at hP1
    have hP := hP1
    have hD := hD1.weaken (fun _ q _ h => hFc q.1 h)
    refine lv_if_eq (tgt := 34) hx hb dX7_attempt_13 (by decide) (fun cc13 => ?_) (fun cc13 => ?_)
    · have hf := if_t cc13 hf
      refine lv_ldc hx hb hown (hG _ g_676) dX7_attempt_34 ?_
      exact W.iret (v := (-1000000001 : Int32)) hx hb hr (fun t ht hW => ⟨⟨(-1000000001 : Int32), x, rfl, ⟨pr_1 hf, pr_2 hf⟩, by rw [ht]; exact hP, hD⟩, hS.F ht⟩) hS.2.2 dX7_attempt_36
    · have hf := if_f cc13 hf
      refine lv_iload_n hx hb dX7_attempt_16 rfl (lv_at hl 3 rfl) ?_
      refine lv_i2l hx hb dX7_attempt_17 rfl ?_
      refine lv_lconst (v := (0 : Int64)) hx hb dX7_attempt_18 (by decide) ?_
      refine lv_iconst (v := (1 : Int32)) hx hb dX7_attempt_19 (by decide) ?_
      refine lv_aload_n hx hb dX7_attempt_20 rfl (lv_at hl 0 rfl) ?_
      refine va_get (D := D) (ci := 7) (v := .int (x 0 13)) (C := RX7) (T := TX7) (N := 32) hx hb hG inG7 hown hK hP 0 at_M_0_0 rfl 13 (by decide) (hG _ g_577) (fun _ h9 => h9) rfl dX7_attempt_21 ?_
      refine lv_ishl hx hb dX7_attempt_24 ?_
      refine lv_iconst (v := (1 : Int32)) hx hb dX7_attempt_25 (by decide) ?_
      refine lv_isub hx hb dX7_attempt_26 ?_
      refine lv_i2l hx hb dX7_attempt_27 rfl ?_
      obtain ⟨q3, hq3, hf⟩ := bd_x hf
      have hFc := va_free (wc := []) hD hS hA [] rfl
      refine va_calli (va_runS (As := [.long (Int32.toInt64 p3), .long (0 : Int64), .long (Int32.toInt64 (((1 : Int32) <<< ((x 0 13) &&& 31)) - (1 : Int32)))]) (rest := []) ⟨hx, hb, hml, hown, hG⟩ (c_X7_in l D cI cZ (Int32.toInt64 p3) (0 : Int64) (Int32.toInt64 (((1 : Int32) <<< ((x 0 13) &&& 31)) - (1 : Int32))) H.size hq3) (cwS 3 hG (gS g_602 g_603 g_77 g_604) rfl rfl rfl (by decide +kernel) ⟨Nat.le_of_ble_eq_true rfl, Nat.le_of_ble_eq_true rfl⟩) ⟨pre_blind, fun U hU hW => ⟨rfl, pre_of P_nil hK D_nil hnw hU hW⟩⟩ rfl rfl hl.1 rfl (lv_room (Nat.le_of_ble_eq_true rfl)) dX7_attempt_28 ⟨Nat.le_of_ble_eq_true rfl, Nat.le_of_ble_eq_true rfl⟩) hS (fun q _ h => hFc q h) hFc (fun v u t H locs ht hvm hw hB hz1 hk1 hS => ?_)
      have hw := hw.symm; subst hw
      obtain ⟨hP1, hD1⟩ := hB
      rw [ht] at hP1
      obtain ⟨hP, hD⟩ := back hP hD [] rfl rfl hk1 hFc hP1 hD1
      refine lv_if_ne (tgt := 37) hx hb dX7_attempt_31 (by decide) (fun cc31 => ?_) (fun cc31 => ?_)
      · have hf := if_f cc31 hf
        refine lv_aload_n hx hb dX7_attempt_37 rfl (lv_at hl 0 rfl) ?_
        refine va_get (D := D) (ci := 7) (v := .ref (a 1)) (C := RX7) (T := TX7) (N := 32) hx hb hG inG7 hown hK hP 0 at_M_0_0 rfl 0 (by decide) (hG _ g_564) (fun _ h9 => h9) rfl dX7_attempt_38 ?_
        refine lv_bipush (v := (35 : Int32)) hx hb dX7_attempt_41 (by decide) ?_
        refine lv_iload_n hx hb dX7_attempt_43 rfl (lv_at hl 1 rfl) ?_
        refine lv_iadd hx hb dX7_attempt_44 ?_
        obtain ⟨hb45, hf⟩ := gd hf
        refine va_iald (cA := cI) (n := 141) (f := x 1) hx hb hK hP 1 0 at_M_0_1 rfl (inb_in hb45) dX7_attempt_45 ?_
        refine lv_iload_n hx hb dX7_attempt_46 rfl (lv_at hl 2 rfl) ?_
        obtain ⟨q4, hq4, hf⟩ := bd_x hf
        have hFc := va_free (wc := []) hD hS hA [] rfl
        refine va_calli (va_runS (As := [.int (x 1 (Int32.toNatClampNeg ((35 : Int32) + p1))), .int p2]) (rest := []) ⟨hx, hb, hml, hown, hG⟩ (c_X7_has l D cI cZ (x 1 (Int32.toNatClampNeg ((35 : Int32) + p1))) p2 H.size hq4) (cwS 2 hG (gS g_643 g_644 g_77 g_645) rfl rfl rfl (by decide +kernel) ⟨Nat.le_of_ble_eq_true rfl, Nat.le_of_ble_eq_true rfl⟩) ⟨pre_blind, fun U hU hW => ⟨rfl, pre_of P_nil hK D_nil hnw hU hW⟩⟩ rfl rfl hl.1 rfl (lv_room (Nat.le_of_ble_eq_true rfl)) dX7_attempt_47 ⟨Nat.le_of_ble_eq_true rfl, Nat.le_of_ble_eq_true rfl⟩) hS (fun q _ h => hFc q h) hFc (fun v u t H locs ht hvm hw hB hz1 hk1 hS => ?_)
        have hw := hw.symm; subst hw
        obtain ⟨hP1, hD1⟩ := hB
        rw [ht] at hP1
        obtain ⟨hP, hD⟩ := back hP hD [] rfl rfl hk1 hFc hP1 hD1
        refine lv_if_ne (tgt := 79) hx hb dX7_attempt_50 (by decide) (fun cc50 => ?_) (fun cc50 => ?_)
        · have hf := if_f cc50 hf
          refine lv_ldc hx hb hown (hG _ g_746) dX7_attempt_79 ?_
          exact W.iret (v := (-1000000003 : Int32)) hx hb hr (fun t ht hW => ⟨⟨(-1000000003 : Int32), x, rfl, ⟨pr_1 hf, pr_2 hf⟩, by rw [ht]; exact hP, hD⟩, hS.F ht⟩) hS.2.2 dX7_attempt_81
        · have hf := if_t cc50 hf
          refine lv_iload_n hx hb dX7_attempt_53 rfl (lv_at hl 3 rfl) ?_
          refine lv_aload_n hx hb dX7_attempt_54 rfl (lv_at hl 0 rfl) ?_
          refine lv_iload_n hx hb dX7_attempt_55 rfl (lv_at hl 2 rfl) ?_
          obtain ⟨q5, hq5, hf⟩ := bd_x hf
          have hFc := freeS hD hS hA
          refine va_calli (va_runV (As := [.int p2]) (rest := [.int p3]) ⟨hx, hb, hml, hown, hG⟩ (c_X7_tricksOf l D cI cZ a x p2 H.size hq5) (cwV 1 hG (gV g_705 g_706 g_53 g_77 g_707) rfl rfl rfl (by decide +kernel) ⟨Nat.le_of_ble_eq_true rfl, Nat.le_of_ble_eq_true rfl⟩) ⟨pre_blind, va_recv hK hP (ci := 7) (q0 := 0) rfl rfl, fun U hU hW => ⟨rfl, pre_of hP hK hD hnw hU hW⟩⟩ rfl rfl hl.1 rfl (lv_room (Nat.le_of_ble_eq_true rfl)) dX7_attempt_56 ⟨Nat.le_of_ble_eq_true rfl, Nat.le_of_ble_eq_true rfl⟩) hS (fun q _ h => hFc q h) hFc (fun v u t H locs ht hvm hw hB hz1 hk1 hS => ?_)
          have hw := hw.symm; subst hw
          obtain ⟨hP1, hD1⟩ := hB
          rw [ht] at hP1
          have hP := hP1
          have hD := hD1.weaken (fun _ q _ h => hFc q.1 h)
          refine lv_iconst (v := (-1 : Int32)) hx hb dX7_attempt_59 (by decide) ?_
          refine lv_ixor hx hb dX7_attempt_60 ?_
          refine lv_iand hx hb dX7_attempt_61 ?_
          refine lv_if_ne (tgt := 79) hx hb dX7_attempt_62 (by decide) (fun cc62 => ?_) (fun cc62 => ?_)
          · have hf := if_f cc62 hf
            refine lv_ldc hx hb hown (hG _ g_746) dX7_attempt_79 ?_
            exact W.iret (v := (-1000000003 : Int32)) hx hb hr (fun t ht hW => ⟨⟨(-1000000003 : Int32), x, rfl, ⟨pr_1 hf, pr_2 hf⟩, by rw [ht]; exact hP, hD⟩, hS.F ht⟩) hS.2.2 dX7_attempt_81
          · have hf := if_t cc62 hf
            refine lv_iload_n hx hb dX7_attempt_65 rfl (lv_at hl 3 rfl) ?_
            refine lv_aload_n hx hb dX7_attempt_66 rfl (lv_at hl 0 rfl) ?_
            refine va_get (D := D) (ci := 7) (v := .ref (a 1)) (C := RX7) (T := TX7) (N := 32) hx hb hG inG7 hown hK hP 0 at_M_0_0 rfl 0 (by decide) (hG _ g_564) (fun _ h9 => h9) rfl dX7_attempt_67 ?_
            refine lv_bipush (v := (40 : Int32)) hx hb dX7_attempt_70 (by decide) ?_
            refine lv_iload_n hx hb dX7_attempt_72 rfl (lv_at hl 1 rfl) ?_
            refine lv_iadd hx hb dX7_attempt_73 ?_
            obtain ⟨hb74, hf⟩ := gd hf
            refine va_iald (cA := cI) (n := 141) (f := x 1) hx hb hK hP 1 0 at_M_0_1 rfl (inb_in hb74) dX7_attempt_74 ?_
            refine lv_iand hx hb dX7_attempt_75 ?_
            refine lv_if_eq (tgt := 82) hx hb dX7_attempt_76 (by decide) (fun cc76 => ?_) (fun cc76 => ?_)
            · have hf := if_t cc76 hf
              refine lv_aload_n hx hb dX7_attempt_82 rfl (lv_at hl 0 rfl) ?_
              refine va_get (D := D) (ci := 7) (v := .ref (a 7)) (C := RX7) (T := TX7) (N := 32) hx hb hG inG7 hown hK hP 0 at_M_0_0 rfl 12 (by decide) (hG _ g_576) (fun _ h9 => h9) rfl dX7_attempt_83 ?_
              refine lv_iconst (v := (4 : Int32)) hx hb dX7_attempt_86 (by decide) ?_
              refine lv_iload_n hx hb dX7_attempt_87 rfl (lv_at hl 2 rfl) ?_
              refine lv_imul hx hb dX7_attempt_88 ?_
              obtain ⟨hb89, hf⟩ := gd hf
              refine va_iald (cA := cI) (n := 24) (f := x 7) hx hb hK hP 7 0 at_M_0_7 rfl (inb_in hb89) dX7_attempt_89 ?_
              refine lv_topi (fun v6 ev6 => ?_)
              have hf := nm_x ev6 hf
              refine lv_istore (lv' := [(4, .int v6), (0, .ref (a 0)), (1, .int p1), (2, .int p2), (3, .int p3)]) hx hb dX7_attempt_90 hl (by decide) rfl (fun ls hl => ?_)
              refine lv_aload_n hx hb dX7_attempt_92 rfl (lv_at hl 1 rfl) ?_
              refine lv_iload_n hx hb dX7_attempt_93 rfl (lv_at hl 2 rfl) ?_
              refine lv_iload_n hx hb dX7_attempt_94 rfl (lv_at hl 3 rfl) ?_
              refine lv_iload_n hx hb dX7_attempt_95 rfl (lv_at hl 4 rfl) ?_
              refine lv_aload_n hx hb dX7_attempt_96 rfl (lv_at hl 1 rfl) ?_
              refine lv_iload hx hb dX7_attempt_97 (lv_at hl 0 rfl) ?_
              refine lv_iload_n hx hb dX7_attempt_99 rfl (lv_at hl 2 rfl) ?_
              obtain ⟨q7, hq7, hf⟩ := bd_x hf
              have hFc := freeS hD hS hA
              refine va_calli (va_runV (As := [.int v6, .int p1]) (rest := [.int p3, .int p2, .int p1, .ref (a 0)]) ⟨hx, hb, hml, hown, hG⟩ (c_X7_thought l D cI cZ a x v6 p1 H.size hq7) (cwV 2 hG (gV g_666 g_667 g_46 g_77 g_668) rfl rfl rfl (by decide +kernel) ⟨Nat.le_of_ble_eq_true rfl, Nat.le_of_ble_eq_true rfl⟩) ⟨pre_blind, va_recv hK hP (ci := 7) (q0 := 0) rfl rfl, fun U hU hW => ⟨rfl, pre_of hP hK hD hnw hU hW⟩⟩ rfl rfl hl.1 rfl (lv_room (Nat.le_of_ble_eq_true rfl)) dX7_attempt_100 ⟨Nat.le_of_ble_eq_true rfl, Nat.le_of_ble_eq_true rfl⟩) hS (fun q _ h => hFc q h) hFc (fun v u t H locs ht hvm hw hB hz1 hk1 hS => ?_)
              have hw := hw.symm; subst hw
              obtain ⟨hP1, hD1⟩ := hB
              rw [ht] at hP1
              have hP := hP1
              have hD := hD1.weaken (fun _ q _ h => hFc q.1 h)
              obtain ⟨q8, hq8, hf⟩ := bd_x hf
              have hFc := freeS hD hS hA
              refine va_calli (va_runV (As := [.int p1, .int p2, .int p3, .int q7]) (rest := []) ⟨hx, hb, hml, hown, hG⟩ (c_X7_passes l D cI cZ a x p1 p2 p3 q7 H.size hq8) (cwV 4 hG (gV g_747 g_748 g_58 g_77 g_749) rfl rfl rfl (by decide +kernel) ⟨Nat.le_of_ble_eq_true rfl, Nat.le_of_ble_eq_true rfl⟩) ⟨pre_blind, va_recv hK hP (ci := 7) (q0 := 0) rfl rfl, fun U hU hW => ⟨rfl, pre_of hP hK hD hnw hU hW⟩⟩ rfl rfl hl.1 rfl (lv_room (Nat.le_of_ble_eq_true rfl)) dX7_attempt_103 ⟨Nat.le_of_ble_eq_true rfl, Nat.le_of_ble_eq_true rfl⟩) hS (fun q _ h => hFc q h) hFc (fun v u t H locs ht hvm hw hB hz1 hk1 hS => ?_)
              have hw := hw.symm; subst hw
              obtain ⟨hP1, hD1⟩ := hB
              rw [ht] at hP1
              have hP := hP1
              have hD := hD1.weaken (fun _ q _ h => hFc q.1 h)
              refine lv_istore (lv' := [(5, .int q8), (4, .int v6), (0, .ref (a 0)), (1, .int p1), (2, .int p2), (3, .int p3)]) hx hb dX7_attempt_106 hl (by decide) rfl (fun ls hl => ?_)
              refine lv_aload_n hx hb dX7_attempt_108 rfl (lv_at hl 2 rfl) ?_
              refine va_get (D := D) (ci := 7) (v := .ref (a 1)) (C := RX7) (T := TX7) (N := 32) hx hb hG inG7 hown hK hP 0 at_M_0_0 rfl 0 (by decide) (hG _ g_564) (fun _ h9 => h9) rfl dX7_attempt_109 ?_
              refine lv_bipush (v := (40 : Int32)) hx hb dX7_attempt_112 (by decide) ?_
              refine lv_iload_n hx hb dX7_attempt_114 rfl (lv_at hl 3 rfl) ?_
              refine lv_iadd hx hb dX7_attempt_115 ?_
              refine lv_dup2_11 hx hb dX7_attempt_116 rfl rfl ?_
              obtain ⟨hb117, hf⟩ := gd hf
              refine va_iald (cA := cI) (n := 141) (f := x 1) hx hb hK hP 1 0 at_M_0_1 rfl (inb_in hb117) dX7_attempt_117 ?_
              refine lv_iload_n hx hb dX7_attempt_118 rfl (lv_at hl 5 rfl) ?_
              refine lv_ior hx hb dX7_attempt_119 ?_
              obtain ⟨hb120, hf⟩ := gd hf
              refine va_iast (cA := cI) (n := 141) (f := x 1) hx hb hK hP hD hS 1 0 at_M_0_1 rfl (inb_in hb120) dX7_attempt_120 (fun H locs hP hD hS => ?_)
              obtain ⟨X9, eX9⟩ : ∃ y : HC, y = (sa x 1 ((40 : Int32) + p1) ((x 1 (Int32.toNatClampNeg ((40 : Int32) + p1))) ||| p3)) := ⟨_, rfl⟩
              have hf := nm_x eX9 hf
              have hP := wP (sa_M_0_1.trans (congrArg (fun z : HC => (kM cI cZ a z)) eX9.symm)) hP
              have hD := wD (sa_M_0_1.trans (congrArg (fun z : HC => (kM cI cZ a z)) eX9.symm)) hD
              refine lv_iload hx hb dX7_attempt_121 (lv_at hl 0 rfl) ?_
              refine lv_if_ne (tgt := 141) hx hb dX7_attempt_123 (by decide) (fun cc123 => ?_) (fun cc123 => ?_)
              · have hf := if_f cc123 hf
                refine lv_aload_n hx hb dX7_attempt_141 rfl (lv_at hl 2 rfl) ?_
                refine va_get (D := D) (ci := 7) (v := .ref (a 1)) (C := RX7) (T := TX7) (N := 32) hx hb hG inG7 hown hK hP 0 at_M_0_0 rfl 0 (by decide) (hG _ g_564) (fun _ h9 => h9) rfl dX7_attempt_142 ?_
                refine lv_bipush (v := (35 : Int32)) hx hb dX7_attempt_145 (by decide) ?_
                refine lv_iload_n hx hb dX7_attempt_147 rfl (lv_at hl 3 rfl) ?_
                refine lv_iadd hx hb dX7_attempt_148 ?_
                refine lv_dup2_11 hx hb dX7_attempt_149 rfl rfl ?_
                obtain ⟨hb150, hf⟩ := gd hf
                refine va_iald (cA := cI) (n := 141) (f := X9 1) hx hb hK hP 1 0 at_M_0_1 rfl (inb_in hb150) dX7_attempt_150 ?_
                refine lv_iconst (v := (1 : Int32)) hx hb dX7_attempt_151 (by decide) ?_
                refine lv_iload_n hx hb dX7_attempt_152 rfl (lv_at hl 4 rfl) ?_
                refine lv_ishl hx hb dX7_attempt_153 ?_
                refine lv_ior hx hb dX7_attempt_154 ?_
                obtain ⟨hb155, hf⟩ := gd hf
                refine va_iast (cA := cI) (n := 141) (f := X9 1) hx hb hK hP hD hS 1 0 at_M_0_1 rfl (inb_in hb155) dX7_attempt_155 (fun H locs hP hD hS => ?_)
                obtain ⟨X10, eX10⟩ : ∃ y : HC, y = (sa X9 1 ((35 : Int32) + p1) ((X9 1 (Int32.toNatClampNeg ((35 : Int32) + p1))) ||| ((1 : Int32) <<< (p2 &&& 31)))) := ⟨_, rfl⟩
                have hf := nm_x eX10 hf
                have hP := wP (sa_M_0_1.trans (congrArg (fun z : HC => (kM cI cZ a z)) eX10.symm)) hP
                have hD := wD (sa_M_0_1.trans (congrArg (fun z : HC => (kM cI cZ a z)) eX10.symm)) hD
                refine lv_iconst (v := (0 : Int32)) hx hb dX7_attempt_156 (by decide) ?_
                refine lv_istore (lv' := [(6, .int (0 : Int32)), (5, .int q8), (4, .int v6), (0, .ref (a 0)), (1, .int p1), (2, .int p2), (3, .int p3)]) hx hb dX7_attempt_157 hl (by decide) rfl (fun ls hl => ?_)
                have L159 : ∀ (n : Nat) (v11 : Int32) (X12 : HC) (H : Heap) (locs : List Loc) (ls : Array Slot), va_P D vwCl (kM cI cZ a X12) H → va_D A (kM cI cZ a X12) → va_S A s.heap H locs → lv_has ls 7 [(0, .ref (a 0)), (1, .int p1), (2, .int p2), (6, .int v11)] → lp (fun _ _ => none : Int32 → HC → Option (Int32 × HC)) (f_X7_attempt_b159 p1 p2) n v11 X12 = some r → W p l e RM_X7_attempt s m (([.ref (a 0), .int p1, .int p2, .int p3] : List Value).toArray) below meth c H locs 0 0 (MQ below (QI D A (fun (u : HC) => (kM cI cZ a u)) r) (([.ref (a 0), .int p1, .int p2, .int p3] : List Value).toArray) s 0 0 A) (F0 m 159 ls []) := by
                  intro n
                  induction n with
                  | zero => intro v11 X12 H locs ls _ _ _ _ hf; cases (show (none : Option (Int32 × HC)) = some r from hf)
                  | succ n ih159 =>
                    intro v11 X12 H locs ls hP hD hS hl hf
                    have hf : (f_X7_attempt_b159 p1 p2) (lp (fun _ _ => none : Int32 → HC → Option (Int32 × HC)) (f_X7_attempt_b159 p1 p2) n) v11 X12 = some r := hf
                    generalize lp (fun _ _ => none : Int32 → HC → Option (Int32 × HC)) (f_X7_attempt_b159 p1 p2) n = rc159 at ih159 hf
                    unfold f_X7_attempt_b159 at hf
                    refine lv_iload hx hb dX7_attempt_159 (lv_at hl 3 rfl) ?_
                    refine lv_aload_n hx hb dX7_attempt_161 rfl (lv_at hl 0 rfl) ?_
                    refine va_get (D := D) (ci := 7) (v := .int (X12 0 5)) (C := RX7) (T := TX7) (N := 32) hx hb hG inG7 hown hK hP 0 at_M_0_0 rfl 5 (by decide) (hG _ g_569) (fun _ h9 => h9) rfl dX7_attempt_162 ?_
                    refine lv_icmp_ge (tgt := 199) hx hb dX7_attempt_165 (by decide) (fun cc165 => ?_) (fun cc165 => ?_)
                    · have hf := if_t cc165 hf
                      refine lv_iconst (v := (1 : Int32)) hx hb dX7_attempt_199 (by decide) ?_
                      exact W.iret (v := (1 : Int32)) hx hb hr (fun t ht hW => ⟨⟨(1 : Int32), X12, rfl, ⟨pr_1 hf, pr_2 hf⟩, by rw [ht]; exact hP, hD⟩, hS.F ht⟩) hS.2.2 dX7_attempt_200
                    · have hf := if_f cc165 hf
                      refine lv_aload_n hx hb dX7_attempt_168 rfl (lv_at hl 0 rfl) ?_
                      refine lv_iload hx hb dX7_attempt_169 (lv_at hl 3 rfl) ?_
                      refine lv_iload_n hx hb dX7_attempt_171 rfl (lv_at hl 1 rfl) ?_
                      refine lv_aload_n hx hb dX7_attempt_172 rfl (lv_at hl 0 rfl) ?_
                      refine lv_iload hx hb dX7_attempt_173 (lv_at hl 3 rfl) ?_
                      refine lv_iload_n hx hb dX7_attempt_175 rfl (lv_at hl 1 rfl) ?_
                      obtain ⟨q13, hq13, hf⟩ := bd_x hf
                      have hFc := freeS hD hS hA
                      refine va_calli (va_runV (As := [.int v11, .int p1]) (rest := [.int p1, .int v11, .ref (a 0)]) ⟨hx, hb, hml, hown, hG⟩ (c_X7_thought l D cI cZ a X12 v11 p1 H.size hq13) (cwV 2 hG (gV g_666 g_667 g_46 g_77 g_668) rfl rfl rfl (by decide +kernel) ⟨Nat.le_of_ble_eq_true rfl, Nat.le_of_ble_eq_true rfl⟩) ⟨pre_blind, va_recv hK hP (ci := 7) (q0 := 0) rfl rfl, fun U hU hW => ⟨rfl, pre_of hP hK hD hnw hU hW⟩⟩ rfl rfl hl.1 rfl (lv_room (Nat.le_of_ble_eq_true rfl)) dX7_attempt_176 ⟨Nat.le_of_ble_eq_true rfl, Nat.le_of_ble_eq_true rfl⟩) hS (fun q _ h => hFc q h) hFc (fun v u t H locs ht hvm hw hB hz1 hk1 hS => ?_)
                      have hw := hw.symm; subst hw
                      obtain ⟨hP1, hD1⟩ := hB
                      rw [ht] at hP1
                      have hP := hP1
                      have hD := hD1.weaken (fun _ q _ h => hFc q.1 h)
                      refine lv_aload_n hx hb dX7_attempt_179 rfl (lv_at hl 0 rfl) ?_
                      refine va_get (D := D) (ci := 7) (v := .ref (a 7)) (C := RX7) (T := TX7) (N := 32) hx hb hG inG7 hown hK hP 0 at_M_0_0 rfl 12 (by decide) (hG _ g_576) (fun _ h9 => h9) rfl dX7_attempt_180 ?_
                      refine lv_iconst (v := (4 : Int32)) hx hb dX7_attempt_183 (by decide) ?_
                      refine lv_iload_n hx hb dX7_attempt_184 rfl (lv_at hl 2 rfl) ?_
                      refine lv_imul hx hb dX7_attempt_185 ?_
                      refine lv_iconst (v := (3 : Int32)) hx hb dX7_attempt_186 (by decide) ?_
                      refine lv_iadd hx hb dX7_attempt_187 ?_
                      obtain ⟨hb188, hf⟩ := gd hf
                      refine va_iald (cA := cI) (n := 24) (f := X12 7) hx hb hK hP 7 0 at_M_0_7 rfl (inb_in hb188) dX7_attempt_188 ?_
                      refine lv_iadd hx hb dX7_attempt_189 ?_
                      obtain ⟨q14, hq14, hf⟩ := bd_x hf
                      have hFc := freeS hD hS hA
                      refine va_callv (va_runV (As := [.int v11, .int p1, .int (q13 + (X12 7 (Int32.toNatClampNeg (((4 : Int32) * p2) + (3 : Int32)))))]) (rest := []) ⟨hx, hb, hml, hown, hG⟩ (c_X7_think l D cI cZ a X12 v11 p1 (q13 + (X12 7 (Int32.toNatClampNeg (((4 : Int32) * p2) + (3 : Int32))))) H.size hq14) (cwV 3 hG (gV g_720 g_721 g_55 g_77 g_722) rfl rfl rfl (by decide +kernel) ⟨Nat.le_of_ble_eq_true rfl, Nat.le_of_ble_eq_true rfl⟩) ⟨pre_blind, va_recv hK hP (ci := 7) (q0 := 0) rfl rfl, fun U hU hW => ⟨rfl, pre_of hP hK hD hnw hU hW⟩⟩ rfl rfl hl.1 rfl (lv_room (Nat.le_of_ble_eq_true rfl)) dX7_attempt_190 ⟨Nat.le_of_ble_eq_true rfl, Nat.le_of_ble_eq_true rfl⟩) hS (fun q _ h => hFc q h) hFc (fun u t H locs ht hvm hw hB hz1 hk1 hS => ?_)
                      have hw := hw.symm; subst hw
                      obtain ⟨hP1, hD1⟩ := hB
                      rw [ht] at hP1
                      have hP := hP1
                      have hD := hD1.weaken (fun _ q _ h => hFc q.1 h)
                      obtain ⟨v15, ev15⟩ : ∃ y : Int32, y = (v11 + (1 : Int32)) := ⟨_, rfl⟩
                      have hf := nm_x ev15 hf
                      refine lv_iinc (v := v15) (lv' := [(6, .int v15), (0, .ref (a 0)), (1, .int p1), (2, .int p2)]) hx hb dX7_attempt_193 hl (k := 3) rfl (by rw [ev15]; rfl) (by decide) rfl (fun ls hl => ?_)
                      refine lv_goto (tgt := 159) hx hb dX7_attempt_196 (by decide) ?_
                      exact ih159 v15 q14 _ _ _ hP hD hS (lv_sub hl [1, 2, 3, 0] rfl) hf
                exact L159 FU (0 : Int32) X10 _ _ _ hP hD hS (lv_sub hl [3, 4, 5, 0] rfl) hf
              · have hf := if_t cc123 hf
                refine lv_aload_n hx hb dX7_attempt_126 rfl (lv_at hl 2 rfl) ?_
                refine lv_iload hx hb dX7_attempt_127 (lv_at hl 1 rfl) ?_
                refine lv_iload_n hx hb dX7_attempt_129 rfl (lv_at hl 3 rfl) ?_
                refine lv_aload_n hx hb dX7_attempt_130 rfl (lv_at hl 2 rfl) ?_
                refine va_get (D := D) (ci := 7) (v := .ref (a 5)) (C := RX7) (T := TX7) (N := 32) hx hb hG inG7 hown hK hP 0 at_M_0_0 rfl 8 (by decide) (hG _ g_572) (fun _ h9 => h9) rfl dX7_attempt_131 ?_
                refine lv_iload_n hx hb dX7_attempt_134 rfl (lv_at hl 3 rfl) ?_
                obtain ⟨hb135, hf⟩ := gd hf
                refine va_iald (cA := cI) (n := 5) (f := X9 5) hx hb hK hP 5 0 at_M_0_5 rfl (inb_in hb135) dX7_attempt_135 ?_
                obtain ⟨q16, hq16, hf⟩ := bd_x hf
                have hFc := freeS hD hS hA
                refine va_callv (va_runV (As := [.int v6, .int p1, .int (X9 5 (Int32.toNatClampNeg p1))]) (rest := []) ⟨hx, hb, hml, hown, hG⟩ (c_X7_think l D cI cZ a X9 v6 p1 (X9 5 (Int32.toNatClampNeg p1)) H.size hq16) (cwV 3 hG (gV g_720 g_721 g_55 g_77 g_722) rfl rfl rfl (by decide +kernel) ⟨Nat.le_of_ble_eq_true rfl, Nat.le_of_ble_eq_true rfl⟩) ⟨pre_blind, va_recv hK hP (ci := 7) (q0 := 0) rfl rfl, fun U hU hW => ⟨rfl, pre_of hP hK hD hnw hU hW⟩⟩ rfl rfl hl.1 rfl (lv_room (Nat.le_of_ble_eq_true rfl)) dX7_attempt_136 ⟨Nat.le_of_ble_eq_true rfl, Nat.le_of_ble_eq_true rfl⟩) hS (fun q _ h => hFc q h) hFc (fun u t H locs ht hvm hw hB hz1 hk1 hS => ?_)
                have hw := hw.symm; subst hw
                obtain ⟨hP1, hD1⟩ := hB
                rw [ht] at hP1
                have hP := hP1
                have hD := hD1.weaken (fun _ q _ h => hFc q.1 h)
                refine lv_iconst (v := (0 : Int32)) hx hb dX7_attempt_139 (by decide) ?_
                exact W.iret (v := (0 : Int32)) hx hb hr (fun t ht hW => ⟨⟨(0 : Int32), q16, rfl, ⟨pr_1 hf, pr_2 hf⟩, by rw [ht]; exact hP, hD⟩, hS.F ht⟩) hS.2.2 dX7_attempt_140
            · have hf := if_f cc76 hf
              refine lv_ldc hx hb hown (hG _ g_746) dX7_attempt_79 ?_
              exact W.iret (v := (-1000000003 : Int32)) hx hb hr (fun t ht hW => ⟨⟨(-1000000003 : Int32), x, rfl, ⟨pr_1 hf, pr_2 hf⟩, by rw [ht]; exact hP, hD⟩, hS.F ht⟩) hS.2.2 dX7_attempt_81
      · have hf := if_t cc31 hf
        refine lv_ldc hx hb hown (hG _ g_676) dX7_attempt_34 ?_
        exact W.iret (v := (-1000000001 : Int32)) hx hb hr (fun t ht hW => ⟨⟨(-1000000001 : Int32), x, rfl, ⟨pr_1 hf, pr_2 hf⟩, by rw [ht]; exact hP, hD⟩, hS.F ht⟩) hS.2.2 dX7_attempt_36
def f_X7_draw (x : HC) (p1 : Int32) : Option (Int32 × HC) := (if inb (46 : Int32) 141 then nm ((((Int32.toInt64 (x 1 (Int32.toNatClampNeg (46 : Int32)))) * (1103515245 : Int64)) + (12345 : Int64)) - (((Int32.toInt64 (x 1 (Int32.toNatClampNeg (46 : Int32)))) * (1103515245 : Int64)) + (12345 : Int64)) / (2147483648 : Int64) * (2147483648 : Int64)) (fun (v1 : Int64) => (if inb (46 : Int32) 141 then nm (sa x 1 (46 : Int32) (Int64.toInt32 v1)) (fun (X2 : HC) => (if ¬ (Int32.toInt64 p1) = 0 then some ((Int64.toInt32 ((v1 / (65536 : Int64)) - (v1 / (65536 : Int64)) / (Int32.toInt64 p1) * (Int32.toInt64 p1))), X2) else none)) else none)) else none)
abbrev RM_X7_draw : Room := { frames := 0, cells := 0, slots := 0, locals := 0 }
set_option maxHeartbeats 4000000 in
set_option maxRecDepth 100000 in
theorem c_X7_draw (l : Launch) (D : va_G) (cI cZ : ClassId) (a : Nat → Nat) (x : HC) (p1 : Int32) (sz : Nat) {r : Int32 × HC} (hf : f_X7_draw x p1 = some r) : Met l yX7_draw (wM yX7_draw cX7_draw 4 (some .int)) RM_X7_draw (va_Pc [.ref (a 0), .int p1] (pre D cI cZ (kM cI cZ a x) sz)) (QI D (va_A (kM cI cZ a x) sz) (fun (u : HC) => (kM cI cZ a u)) r) 0 0 (va_A (kM cI cZ a x) sz) := by
  unfold f_X7_draw at hf
  refine Met.ofW (cc := cX7_draw) (maxL := 4) (ret := (some .int)) (by decide) rfl ?_
  intro p e s m args below meth c s₁ B hml hv
  obtain ⟨rfl, hsz, hP, hK, hD0, hnw⟩ := hv
  have hx := B.exec
  have hb := B.bytes
  have hr := B.returns
  have hts := atoms_spec (ws := wM yX7_draw cX7_draw 4 (some .int)) B.pre
  have hG : ∀ w ∈ GW, w.before (([.ref (a 0), .int p1] : List Value).toArray) s = true := fun w h => hts w (List.mem_cons_of_mem _ h)
  have hown : s.vm.findClass RX7 = some m.cls := findClass_of_methodNamed B.named
  have hlocks := B.notSynchronized
  subst hsz
  have hD := hD0.self (sz := s.heap.size)
  generalize hAe : va_A (kM cI cZ a x) s.heap.size = A at hD ⊢
  have hA : ∀ q : Nat, s.heap.size ≤ q → A q := fun q h => by rw [← hAe]; exact Or.inr h
  have hS : va_S A s.heap s.heap [] := va_S.rf
  have hl := lv_entry ([.ref (a 0), .int p1]) (n := 4) (Nat.le_of_ble_eq_true rfl)
  rw [lg_entry_eq]
  generalize (lg_sl ([.ref (a 0), .int p1]) ++ List.replicate (4 - (lg_sl ([.ref (a 0), .int p1])).length) Slot.unset).toArray = ls at hl ⊢
  have hl : lv_has ls 4 [(0, .ref (a 0)), (1, .int p1)] := hl
  show W p l e RM_X7_draw s m (([.ref (a 0), .int p1] : List Value).toArray) below meth c s.heap [] 0 0 (MQ below (QI D A (fun (u : HC) => (kM cI cZ a u)) r) (([.ref (a 0), .int p1] : List Value).toArray) s 0 0 A) (F0 m 0 ls [])
  refine lv_aload_n hx hb dX7_draw_0 rfl (lv_at hl 0 rfl) ?_
  refine va_get (D := D) (ci := 7) (v := .ref (a 1)) (C := RX7) (T := TX7) (N := 32) hx hb hG inG7 hown hK hP 0 at_M_0_0 rfl 0 (by decide) (hG _ g_564) (fun _ h9 => h9) rfl dX7_draw_1 ?_
  refine lv_bipush (v := (46 : Int32)) hx hb dX7_draw_4 (by decide) ?_
  obtain ⟨hb6, hf⟩ := gd hf
  refine va_iald (cA := cI) (n := 141) (f := x 1) hx hb hK hP 1 0 at_M_0_1 rfl (inb_in hb6) dX7_draw_6 ?_
  refine lv_i2l hx hb dX7_draw_7 rfl ?_
  refine lv_ldc2 hx hb hown (hG _ g_758) dX7_draw_8 ?_
  refine lv_lmul hx hb dX7_draw_11 ?_
  refine lv_ldc2 hx hb hown (hG _ g_759) dX7_draw_12 ?_
  refine lv_ladd hx hb dX7_draw_15 ?_
  refine lv_ldc2 hx hb hown (hG _ g_760) dX7_draw_16 ?_
  refine lv_lrem hx hb dX7_draw_19 (by decide) ?_
  refine lv_topl (fun v1 ev1 => ?_)
  have hf := nm_x ev1 hf
  refine lv_lstore_n (lv' := [(2, .long v1), (0, .ref (a 0)), (1, .int p1)]) hx hb dX7_draw_20 rfl hl (by decide) rfl (fun ls hl => ?_)
  refine lv_aload_n hx hb dX7_draw_21 rfl (lv_at hl 1 rfl) ?_
  refine va_get (D := D) (ci := 7) (v := .ref (a 1)) (C := RX7) (T := TX7) (N := 32) hx hb hG inG7 hown hK hP 0 at_M_0_0 rfl 0 (by decide) (hG _ g_564) (fun _ h9 => h9) rfl dX7_draw_22 ?_
  refine lv_bipush (v := (46 : Int32)) hx hb dX7_draw_25 (by decide) ?_
  refine lv_lload_n hx hb dX7_draw_27 rfl (lv_at hl 0 rfl) ?_
  refine lv_l2i hx hb dX7_draw_28 rfl ?_
  obtain ⟨hb29, hf⟩ := gd hf
  refine va_iast (cA := cI) (n := 141) (f := x 1) hx hb hK hP hD hS 1 0 at_M_0_1 rfl (inb_in hb29) dX7_draw_29 (fun H locs hP hD hS => ?_)
  obtain ⟨X2, eX2⟩ : ∃ y : HC, y = (sa x 1 (46 : Int32) (Int64.toInt32 v1)) := ⟨_, rfl⟩
  have hf := nm_x eX2 hf
  have hP := wP (sa_M_0_1.trans (congrArg (fun z : HC => (kM cI cZ a z)) eX2.symm)) hP
  have hD := wD (sa_M_0_1.trans (congrArg (fun z : HC => (kM cI cZ a z)) eX2.symm)) hD
  refine lv_lload_n hx hb dX7_draw_30 rfl (lv_at hl 0 rfl) ?_
  refine lv_ldc2 hx hb hown (hG _ g_761) dX7_draw_31 ?_
  refine lv_ldiv hx hb dX7_draw_34 (by decide) ?_
  refine lv_iload_n hx hb dX7_draw_35 rfl (lv_at hl 2 rfl) ?_
  refine lv_i2l hx hb dX7_draw_36 rfl ?_
  obtain ⟨hz37, hf⟩ := gd hf
  refine lv_lrem hx hb dX7_draw_37 hz37 ?_
  refine lv_l2i hx hb dX7_draw_38 rfl ?_
  exact W.iret (v := (Int64.toInt32 ((v1 / (65536 : Int64)) - (v1 / (65536 : Int64)) / (Int32.toInt64 p1) * (Int32.toInt64 p1)))) hx hb hr (fun t ht hW => ⟨⟨(Int64.toInt32 ((v1 / (65536 : Int64)) - (v1 / (65536 : Int64)) / (Int32.toInt64 p1) * (Int32.toInt64 p1))), X2, rfl, ⟨pr_1 hf, pr_2 hf⟩, by rw [ht]; exact hP, hD⟩, hS.F ht⟩) hS.2.2 dX7_draw_39
def f_X7_drift_j118 (rc49 : Int32 → HC → Option (Int32 × HC)) (v2 : Int32) (X10 : HC) : Option (Int32 × HC) := (if inb (45 : Int32) 141 then (if inb (45 : Int32) 141 then nm (sa X10 1 (45 : Int32) ((X10 1 (Int32.toNatClampNeg (45 : Int32))) + (1 : Int32))) (fun (X11 : HC) => nm (v2 + (1 : Int32)) (fun (v12 : Int32) => rc49 v12 X11)) else none) else none)
def f_X7_drift_b49 (p1 : Int32) (rc49 : Int32 → HC → Option (Int32 × HC)) (v2 : Int32) (X3 : HC) : Option (Int32 × HC) := (if p1 ≤ v2 then (if inb (45 : Int32) 141 then some ((X3 1 (Int32.toNatClampNeg (45 : Int32))), X3) else none) else bd (f_X7_draw X3 (X3 0 5)) (fun (q4 : Int32 × HC) => nm q4.1 (fun (v5 : Int32) => bd (f_X7_draw q4.2 (q4.2 0 6)) (fun (q6 : Int32 × HC) => nm q6.1 (fun (v7 : Int32) => bd (f_X7_draw q6.2 (3 : Int32)) (fun (q8 : Int32 × HC) => nm q8.1 (fun (v9 : Int32) => (if v9 = 0 then bd (f_X7_doRead q8.2 v5 v7) (fun (q15 : HC) => f_X7_drift_j118 rc49 v2 q15) else (if v9 = (1 : Int32) then bd (f_X7_doRumour q8.2 v7) (fun (q14 : Int32 × HC) => f_X7_drift_j118 rc49 v2 q14.2) else bd (f_X7_doInspect q8.2 v5 v7) (fun (q13 : HC) => f_X7_drift_j118 rc49 v2 q13))))))))))
def f_X7_drift (x : HC) (p1 : Int32) : Option (Int32 × HC) := bd (f_X7_in (Int32.toInt64 p1) (1 : Int64) (99 : Int64)) (fun (q1 : Int32) => (if q1 = 0 then some ((-1000000002 : Int32), x) else (if (x 0 5) = 0 then some ((-1000000003 : Int32), x) else (if (x 0 6) = 0 then some ((-1000000003 : Int32), x) else (if inb (45 : Int32) 141 then (if (x 1 (Int32.toNatClampNeg (45 : Int32))) ≤ (90000 : Int32) then lp (fun _ _ => none : Int32 → HC → Option (Int32 × HC)) (f_X7_drift_b49 p1) FU (0 : Int32) x else some ((-1000000004 : Int32), x)) else none)))))
abbrev RM_X7_drift : Room := { frames := 3, cells := 0, slots := 0, locals := 66 }
set_option maxHeartbeats 4000000 in
set_option maxRecDepth 100000 in
theorem c_X7_drift (l : Launch) (D : va_G) (cI cZ : ClassId) (a : Nat → Nat) (x : HC) (p1 : Int32) (sz : Nat) {r : Int32 × HC} (hf : f_X7_drift x p1 = some r) : Met l yX7_drift (wM yX7_drift cX7_drift 6 (some .int)) RM_X7_drift (va_Pc [.ref (a 0), .int p1] (pre D cI cZ (kM cI cZ a x) sz)) (QI D (va_A (kM cI cZ a x) sz) (fun (u : HC) => (kM cI cZ a u)) r) 0 0 (va_A (kM cI cZ a x) sz) := by
  unfold f_X7_drift at hf
  refine Met.ofW (cc := cX7_drift) (maxL := 6) (ret := (some .int)) (by decide) rfl ?_
  intro p e s m args below meth c s₁ B hml hv
  obtain ⟨rfl, hsz, hP, hK, hD0, hnw⟩ := hv
  have hx := B.exec
  have hb := B.bytes
  have hr := B.returns
  have hts := atoms_spec (ws := wM yX7_drift cX7_drift 6 (some .int)) B.pre
  have hG : ∀ w ∈ GW, w.before (([.ref (a 0), .int p1] : List Value).toArray) s = true := fun w h => hts w (List.mem_cons_of_mem _ h)
  have hown : s.vm.findClass RX7 = some m.cls := findClass_of_methodNamed B.named
  have hlocks := B.notSynchronized
  subst hsz
  have hD := hD0.self (sz := s.heap.size)
  generalize hAe : va_A (kM cI cZ a x) s.heap.size = A at hD ⊢
  have hA : ∀ q : Nat, s.heap.size ≤ q → A q := fun q h => by rw [← hAe]; exact Or.inr h
  have hS : va_S A s.heap s.heap [] := va_S.rf
  have hl := lv_entry ([.ref (a 0), .int p1]) (n := 6) (Nat.le_of_ble_eq_true rfl)
  rw [lg_entry_eq]
  generalize (lg_sl ([.ref (a 0), .int p1]) ++ List.replicate (6 - (lg_sl ([.ref (a 0), .int p1])).length) Slot.unset).toArray = ls at hl ⊢
  have hl : lv_has ls 6 [(0, .ref (a 0)), (1, .int p1)] := hl
  show W p l e RM_X7_drift s m (([.ref (a 0), .int p1] : List Value).toArray) below meth c s.heap [] 0 0 (MQ below (QI D A (fun (u : HC) => (kM cI cZ a u)) r) (([.ref (a 0), .int p1] : List Value).toArray) s 0 0 A) (F0 m 0 ls [])
  refine lv_iload_n hx hb dX7_drift_0 rfl (lv_at hl 1 rfl) ?_
  refine lv_i2l hx hb dX7_drift_1 rfl ?_
  refine lv_lconst (v := (1 : Int64)) hx hb dX7_drift_2 (by decide) ?_
  refine lv_ldc2 hx hb hown (hG _ g_741) dX7_drift_3 ?_
  obtain ⟨q1, hq1, hf⟩ := bd_x hf
  have hFc := va_free (wc := []) hD hS hA [] rfl
  refine va_calli (va_runS (As := [.long (Int32.toInt64 p1), .long (1 : Int64), .long (99 : Int64)]) (rest := []) ⟨hx, hb, hml, hown, hG⟩ (c_X7_in l D cI cZ (Int32.toInt64 p1) (1 : Int64) (99 : Int64) s.heap.size hq1) (cwS 3 hG (gS g_602 g_603 g_77 g_604) rfl rfl rfl (by decide +kernel) ⟨Nat.le_of_ble_eq_true rfl, Nat.le_of_ble_eq_true rfl⟩) ⟨pre_blind, fun U hU hW => ⟨rfl, pre_of P_nil hK D_nil hnw hU hW⟩⟩ rfl rfl hl.1 rfl (lv_room (Nat.le_of_ble_eq_true rfl)) dX7_drift_6 ⟨Nat.le_of_ble_eq_true rfl, Nat.le_of_ble_eq_true rfl⟩) hS (fun q _ h => hFc q h) hFc (fun v u t H locs ht hvm hw hB hz1 hk1 hS => ?_)
  have hw := hw.symm; subst hw
  obtain ⟨hP1, hD1⟩ := hB
  rw [ht] at hP1
  obtain ⟨hP, hD⟩ := back hP hD [] rfl rfl hk1 hFc hP1 hD1
  refine lv_if_ne (tgt := 15) hx hb dX7_drift_9 (by decide) (fun cc9 => ?_) (fun cc9 => ?_)
  · have hf := if_f cc9 hf
    refine lv_aload_n hx hb dX7_drift_15 rfl (lv_at hl 0 rfl) ?_
    refine va_get (D := D) (ci := 7) (v := .int (x 0 5)) (C := RX7) (T := TX7) (N := 32) hx hb hG inG7 hown hK hP 0 at_M_0_0 rfl 5 (by decide) (hG _ g_569) (fun _ h9 => h9) rfl dX7_drift_16 ?_
    refine lv_if_eq (tgt := 29) hx hb dX7_drift_19 (by decide) (fun cc19 => ?_) (fun cc19 => ?_)
    · have hf := if_t cc19 hf
      refine lv_ldc hx hb hown (hG _ g_746) dX7_drift_29 ?_
      exact W.iret (v := (-1000000003 : Int32)) hx hb hr (fun t ht hW => ⟨⟨(-1000000003 : Int32), x, rfl, ⟨pr_1 hf, pr_2 hf⟩, by rw [ht]; exact hP, hD⟩, hS.F ht⟩) hS.2.2 dX7_drift_31
    · have hf := if_f cc19 hf
      refine lv_aload_n hx hb dX7_drift_22 rfl (lv_at hl 0 rfl) ?_
      refine va_get (D := D) (ci := 7) (v := .int (x 0 6)) (C := RX7) (T := TX7) (N := 32) hx hb hG inG7 hown hK hP 0 at_M_0_0 rfl 6 (by decide) (hG _ g_570) (fun _ h9 => h9) rfl dX7_drift_23 ?_
      refine lv_if_ne (tgt := 32) hx hb dX7_drift_26 (by decide) (fun cc26 => ?_) (fun cc26 => ?_)
      · have hf := if_f cc26 hf
        refine lv_aload_n hx hb dX7_drift_32 rfl (lv_at hl 0 rfl) ?_
        refine va_get (D := D) (ci := 7) (v := .ref (a 1)) (C := RX7) (T := TX7) (N := 32) hx hb hG inG7 hown hK hP 0 at_M_0_0 rfl 0 (by decide) (hG _ g_564) (fun _ h9 => h9) rfl dX7_drift_33 ?_
        refine lv_bipush (v := (45 : Int32)) hx hb dX7_drift_36 (by decide) ?_
        obtain ⟨hb38, hf⟩ := gd hf
        refine va_iald (cA := cI) (n := 141) (f := x 1) hx hb hK hP 1 0 at_M_0_1 rfl (inb_in hb38) dX7_drift_38 ?_
        refine lv_ldc hx hb hown (hG _ g_754) dX7_drift_39 ?_
        refine lv_icmp_le (tgt := 47) hx hb dX7_drift_41 (by decide) (fun cc41 => ?_) (fun cc41 => ?_)
        · have hf := if_t cc41 hf
          refine lv_iconst (v := (0 : Int32)) hx hb dX7_drift_47 (by decide) ?_
          refine lv_istore_n (lv' := [(2, .int (0 : Int32)), (0, .ref (a 0)), (1, .int p1)]) hx hb dX7_drift_48 rfl hl (by decide) rfl (fun ls hl => ?_)
          have L49 : ∀ (n : Nat) (v2 : Int32) (X3 : HC) (H : Heap) (locs : List Loc) (ls : Array Slot), va_P D vwCl (kM cI cZ a X3) H → va_D A (kM cI cZ a X3) → va_S A s.heap H locs → lv_has ls 6 [(0, .ref (a 0)), (1, .int p1), (2, .int v2)] → lp (fun _ _ => none : Int32 → HC → Option (Int32 × HC)) (f_X7_drift_b49 p1) n v2 X3 = some r → W p l e RM_X7_drift s m (([.ref (a 0), .int p1] : List Value).toArray) below meth c H locs 0 0 (MQ below (QI D A (fun (u : HC) => (kM cI cZ a u)) r) (([.ref (a 0), .int p1] : List Value).toArray) s 0 0 A) (F0 m 49 ls []) := by
            intro n
            induction n with
            | zero => intro v2 X3 H locs ls _ _ _ _ hf; cases (show (none : Option (Int32 × HC)) = some r from hf)
            | succ n ih49 =>
              intro v2 X3 H locs ls hP hD hS hl hf
              have hf : (f_X7_drift_b49 p1) (lp (fun _ _ => none : Int32 → HC → Option (Int32 × HC)) (f_X7_drift_b49 p1) n) v2 X3 = some r := hf
              generalize lp (fun _ _ => none : Int32 → HC → Option (Int32 × HC)) (f_X7_drift_b49 p1) n = rc49 at ih49 hf
              unfold f_X7_drift_b49 at hf
              refine lv_iload_n hx hb dX7_drift_49 rfl (lv_at hl 2 rfl) ?_
              refine lv_iload_n hx hb dX7_drift_50 rfl (lv_at hl 1 rfl) ?_
              refine lv_icmp_ge (tgt := 135) hx hb dX7_drift_51 (by decide) (fun cc51 => ?_) (fun cc51 => ?_)
              · have hf := if_t cc51 hf
                refine lv_aload_n hx hb dX7_drift_135 rfl (lv_at hl 0 rfl) ?_
                refine va_get (D := D) (ci := 7) (v := .ref (a 1)) (C := RX7) (T := TX7) (N := 32) hx hb hG inG7 hown hK hP 0 at_M_0_0 rfl 0 (by decide) (hG _ g_564) (fun _ h9 => h9) rfl dX7_drift_136 ?_
                refine lv_bipush (v := (45 : Int32)) hx hb dX7_drift_139 (by decide) ?_
                obtain ⟨hb141, hf⟩ := gd hf
                refine va_iald (cA := cI) (n := 141) (f := X3 1) hx hb hK hP 1 0 at_M_0_1 rfl (inb_in hb141) dX7_drift_141 ?_
                exact W.iret (v := (X3 1 (Int32.toNatClampNeg (45 : Int32)))) hx hb hr (fun t ht hW => ⟨⟨(X3 1 (Int32.toNatClampNeg (45 : Int32))), X3, rfl, ⟨pr_1 hf, pr_2 hf⟩, by rw [ht]; exact hP, hD⟩, hS.F ht⟩) hS.2.2 dX7_drift_142
              · have hf := if_f cc51 hf
                refine lv_aload_n hx hb dX7_drift_54 rfl (lv_at hl 0 rfl) ?_
                refine lv_aload_n hx hb dX7_drift_55 rfl (lv_at hl 0 rfl) ?_
                refine va_get (D := D) (ci := 7) (v := .int (X3 0 5)) (C := RX7) (T := TX7) (N := 32) hx hb hG inG7 hown hK hP 0 at_M_0_0 rfl 5 (by decide) (hG _ g_569) (fun _ h9 => h9) rfl dX7_drift_56 ?_
                obtain ⟨q4, hq4, hf⟩ := bd_x hf
                have hFc := freeS hD hS hA
                refine va_calli (va_runV (As := [.int (X3 0 5)]) (rest := []) ⟨hx, hb, hml, hown, hG⟩ (c_X7_draw l D cI cZ a X3 (X3 0 5) H.size hq4) (cwV 1 hG (gV g_755 g_756 g_59 g_77 g_757) rfl rfl rfl (by decide +kernel) ⟨Nat.le_of_ble_eq_true rfl, Nat.le_of_ble_eq_true rfl⟩) ⟨pre_blind, va_recv hK hP (ci := 7) (q0 := 0) rfl rfl, fun U hU hW => ⟨rfl, pre_of hP hK hD hnw hU hW⟩⟩ rfl rfl hl.1 rfl (lv_room (Nat.le_of_ble_eq_true rfl)) dX7_drift_59 ⟨Nat.le_of_ble_eq_true rfl, Nat.le_of_ble_eq_true rfl⟩) hS (fun q _ h => hFc q h) hFc (fun v u t H locs ht hvm hw hB hz1 hk1 hS => ?_)
                obtain ⟨rfl, rfl⟩ := hw
                obtain ⟨hP1, hD1⟩ := hB
                rw [ht] at hP1
                have hP := hP1
                have hD := hD1.weaken (fun _ q _ h => hFc q.1 h)
                refine lv_topi (fun v5 ev5 => ?_)
                have hf := nm_x ev5 hf
                refine lv_istore_n (lv' := [(3, .int v5), (0, .ref (a 0)), (1, .int p1), (2, .int v2)]) hx hb dX7_drift_62 rfl hl (by decide) rfl (fun ls hl => ?_)
                refine lv_aload_n hx hb dX7_drift_63 rfl (lv_at hl 1 rfl) ?_
                refine lv_aload_n hx hb dX7_drift_64 rfl (lv_at hl 1 rfl) ?_
                refine va_get (D := D) (ci := 7) (v := .int (q4.2 0 6)) (C := RX7) (T := TX7) (N := 32) hx hb hG inG7 hown hK hP 0 at_M_0_0 rfl 6 (by decide) (hG _ g_570) (fun _ h9 => h9) rfl dX7_drift_65 ?_
                obtain ⟨q6, hq6, hf⟩ := bd_x hf
                have hFc := freeS hD hS hA
                refine va_calli (va_runV (As := [.int (q4.2 0 6)]) (rest := []) ⟨hx, hb, hml, hown, hG⟩ (c_X7_draw l D cI cZ a q4.2 (q4.2 0 6) H.size hq6) (cwV 1 hG (gV g_755 g_756 g_59 g_77 g_757) rfl rfl rfl (by decide +kernel) ⟨Nat.le_of_ble_eq_true rfl, Nat.le_of_ble_eq_true rfl⟩) ⟨pre_blind, va_recv hK hP (ci := 7) (q0 := 0) rfl rfl, fun U hU hW => ⟨rfl, pre_of hP hK hD hnw hU hW⟩⟩ rfl rfl hl.1 rfl (lv_room (Nat.le_of_ble_eq_true rfl)) dX7_drift_68 ⟨Nat.le_of_ble_eq_true rfl, Nat.le_of_ble_eq_true rfl⟩) hS (fun q _ h => hFc q h) hFc (fun v u t H locs ht hvm hw hB hz1 hk1 hS => ?_)
                obtain ⟨rfl, rfl⟩ := hw
                obtain ⟨hP1, hD1⟩ := hB
                rw [ht] at hP1
                have hP := hP1
                have hD := hD1.weaken (fun _ q _ h => hFc q.1 h)
                refine lv_topi (fun v7 ev7 => ?_)
                have hf := nm_x ev7 hf
                refine lv_istore (lv' := [(4, .int v7), (3, .int v5), (0, .ref (a 0)), (1, .int p1), (2, .int v2)]) hx hb dX7_drift_71 hl (by decide) rfl (fun ls hl => ?_)
                refine lv_aload_n hx hb dX7_drift_73 rfl (lv_at hl 2 rfl) ?_
                refine lv_iconst (v := (3 : Int32)) hx hb dX7_drift_74 (by decide) ?_
                obtain ⟨q8, hq8, hf⟩ := bd_x hf
                have hFc := freeS hD hS hA
                refine va_calli (va_runV (As := [.int (3 : Int32)]) (rest := []) ⟨hx, hb, hml, hown, hG⟩ (c_X7_draw l D cI cZ a q6.2 (3 : Int32) H.size hq8) (cwV 1 hG (gV g_755 g_756 g_59 g_77 g_757) rfl rfl rfl (by decide +kernel) ⟨Nat.le_of_ble_eq_true rfl, Nat.le_of_ble_eq_true rfl⟩) ⟨pre_blind, va_recv hK hP (ci := 7) (q0 := 0) rfl rfl, fun U hU hW => ⟨rfl, pre_of hP hK hD hnw hU hW⟩⟩ rfl rfl hl.1 rfl (lv_room (Nat.le_of_ble_eq_true rfl)) dX7_drift_75 ⟨Nat.le_of_ble_eq_true rfl, Nat.le_of_ble_eq_true rfl⟩) hS (fun q _ h => hFc q h) hFc (fun v u t H locs ht hvm hw hB hz1 hk1 hS => ?_)
                obtain ⟨rfl, rfl⟩ := hw
                obtain ⟨hP1, hD1⟩ := hB
                rw [ht] at hP1
                have hP := hP1
                have hD := hD1.weaken (fun _ q _ h => hFc q.1 h)
                refine lv_topi (fun v9 ev9 => ?_)
                have hf := nm_x ev9 hf
                refine lv_istore (lv' := [(5, .int v9), (4, .int v7), (3, .int v5), (0, .ref (a 0)), (1, .int p1), (2, .int v2)]) hx hb dX7_drift_78 hl (by decide) rfl (fun ls hl => ?_)
                refine lv_iload hx hb dX7_drift_80 (lv_at hl 0 rfl) ?_
                have J118 : ∀ (X10 : HC) (H : Heap) (locs : List Loc) (ls : Array Slot), va_P D vwCl (kM cI cZ a X10) H → va_D A (kM cI cZ a X10) → va_S A s.heap H locs → lv_has ls 6 [(0, .ref (a 0)), (1, .int p1), (2, .int v2)] → f_X7_drift_j118 rc49 v2 X10 = some r → W p l e RM_X7_drift s m (([.ref (a 0), .int p1] : List Value).toArray) below meth c H locs 0 0 (MQ below (QI D A (fun (u : HC) => (kM cI cZ a u)) r) (([.ref (a 0), .int p1] : List Value).toArray) s 0 0 A) (F0 m 118 ls []) := by
                  intro X10 H locs ls hP hD hS hl hf
                  unfold f_X7_drift_j118 at hf
                  refine lv_aload_n hx hb dX7_drift_118 rfl (lv_at hl 0 rfl) ?_
                  refine va_get (D := D) (ci := 7) (v := .ref (a 1)) (C := RX7) (T := TX7) (N := 32) hx hb hG inG7 hown hK hP 0 at_M_0_0 rfl 0 (by decide) (hG _ g_564) (fun _ h9 => h9) rfl dX7_drift_119 ?_
                  refine lv_bipush (v := (45 : Int32)) hx hb dX7_drift_122 (by decide) ?_
                  refine lv_dup2_11 hx hb dX7_drift_124 rfl rfl ?_
                  obtain ⟨hb125, hf⟩ := gd hf
                  refine va_iald (cA := cI) (n := 141) (f := X10 1) hx hb hK hP 1 0 at_M_0_1 rfl (inb_in hb125) dX7_drift_125 ?_
                  refine lv_iconst (v := (1 : Int32)) hx hb dX7_drift_126 (by decide) ?_
                  refine lv_iadd hx hb dX7_drift_127 ?_
                  obtain ⟨hb128, hf⟩ := gd hf
                  refine va_iast (cA := cI) (n := 141) (f := X10 1) hx hb hK hP hD hS 1 0 at_M_0_1 rfl (inb_in hb128) dX7_drift_128 (fun H locs hP hD hS => ?_)
                  obtain ⟨X11, eX11⟩ : ∃ y : HC, y = (sa X10 1 (45 : Int32) ((X10 1 (Int32.toNatClampNeg (45 : Int32))) + (1 : Int32))) := ⟨_, rfl⟩
                  have hf := nm_x eX11 hf
                  have hP := wP (sa_M_0_1.trans (congrArg (fun z : HC => (kM cI cZ a z)) eX11.symm)) hP
                  have hD := wD (sa_M_0_1.trans (congrArg (fun z : HC => (kM cI cZ a z)) eX11.symm)) hD
                  obtain ⟨v12, ev12⟩ : ∃ y : Int32, y = (v2 + (1 : Int32)) := ⟨_, rfl⟩
                  have hf := nm_x ev12 hf
                  refine lv_iinc (v := v12) (lv' := [(2, .int v12), (0, .ref (a 0)), (1, .int p1)]) hx hb dX7_drift_129 hl (k := 2) rfl (by rw [ev12]; rfl) (by decide) rfl (fun ls hl => ?_)
                  refine lv_goto (tgt := 49) hx hb dX7_drift_132 (by decide) ?_
                  exact ih49 v12 X11 _ _ _ hP hD hS (lv_sub hl [1, 2, 0] rfl) hf
                refine lv_if_ne (tgt := 95) hx hb dX7_drift_82 (by decide) (fun cc82 => ?_) (fun cc82 => ?_)
                · have hf := if_f cc82 hf
                  refine lv_iload hx hb dX7_drift_95 (lv_at hl 0 rfl) ?_
                  refine lv_iconst (v := (1 : Int32)) hx hb dX7_drift_97 (by decide) ?_
                  refine lv_icmp_ne (tgt := 111) hx hb dX7_drift_98 (by decide) (fun cc98 => ?_) (fun cc98 => ?_)
                  · have hf := if_f cc98 hf
                    refine lv_aload_n hx hb dX7_drift_111 rfl (lv_at hl 3 rfl) ?_
                    refine lv_iload_n hx hb dX7_drift_112 rfl (lv_at hl 2 rfl) ?_
                    refine lv_iload hx hb dX7_drift_113 (lv_at hl 1 rfl) ?_
                    obtain ⟨q13, hq13, hf⟩ := bd_x hf
                    have hFc := freeS hD hS hA
                    refine va_callv (va_runV (As := [.int v5, .int v7]) (rest := []) ⟨hx, hb, hml, hown, hG⟩ (c_X7_doInspect l D cI cZ a q8.2 v5 v7 H.size hq13) (cwV 2 hG (gV g_734 g_735 g_57 g_77 g_736) rfl rfl rfl (by decide +kernel) ⟨Nat.le_of_ble_eq_true rfl, Nat.le_of_ble_eq_true rfl⟩) ⟨pre_blind, va_recv hK hP (ci := 7) (q0 := 0) rfl rfl, fun U hU hW => ⟨rfl, pre_of hP hK hD hnw hU hW⟩⟩ rfl rfl hl.1 rfl (lv_room (Nat.le_of_ble_eq_true rfl)) dX7_drift_115 ⟨Nat.le_of_ble_eq_true rfl, Nat.le_of_ble_eq_true rfl⟩) hS (fun q _ h => hFc q h) hFc (fun u t H locs ht hvm hw hB hz1 hk1 hS => ?_)
                    have hw := hw.symm; subst hw
                    obtain ⟨hP1, hD1⟩ := hB
                    rw [ht] at hP1
                    have hP := hP1
                    have hD := hD1.weaken (fun _ q _ h => hFc q.1 h)
                    exact J118 q13 _ _ _ hP hD hS (lv_sub hl [3, 4, 5] rfl) hf
                  · have hf := if_t cc98 hf
                    refine lv_aload_n hx hb dX7_drift_101 rfl (lv_at hl 3 rfl) ?_
                    refine lv_iload hx hb dX7_drift_102 (lv_at hl 1 rfl) ?_
                    obtain ⟨q14, hq14, hf⟩ := bd_x hf
                    have hFc := freeS hD hS hA
                    refine va_calli (va_runV (As := [.int v7]) (rest := []) ⟨hx, hb, hml, hown, hG⟩ (c_X7_doRumour l D cI cZ a q8.2 v7 H.size hq14) (cwV 1 hG (gV g_727 g_728 g_56 g_77 g_729) rfl rfl rfl (by decide +kernel) ⟨Nat.le_of_ble_eq_true rfl, Nat.le_of_ble_eq_true rfl⟩) ⟨pre_blind, va_recv hK hP (ci := 7) (q0 := 0) rfl rfl, fun U hU hW => ⟨rfl, pre_of hP hK hD hnw hU hW⟩⟩ rfl rfl hl.1 rfl (lv_room (Nat.le_of_ble_eq_true rfl)) dX7_drift_104 ⟨Nat.le_of_ble_eq_true rfl, Nat.le_of_ble_eq_true rfl⟩) hS (fun q _ h => hFc q h) hFc (fun v u t H locs ht hvm hw hB hz1 hk1 hS => ?_)
                    obtain ⟨rfl, rfl⟩ := hw
                    obtain ⟨hP1, hD1⟩ := hB
                    rw [ht] at hP1
                    have hP := hP1
                    have hD := hD1.weaken (fun _ q _ h => hFc q.1 h)
                    refine lv_pop hx hb dX7_drift_107 rfl ?_
                    refine lv_goto (tgt := 118) hx hb dX7_drift_108 (by decide) ?_
                    exact J118 q14.2 _ _ _ hP hD hS (lv_sub hl [3, 4, 5] rfl) hf
                · have hf := if_t cc82 hf
                  refine lv_aload_n hx hb dX7_drift_85 rfl (lv_at hl 3 rfl) ?_
                  refine lv_iload_n hx hb dX7_drift_86 rfl (lv_at hl 2 rfl) ?_
                  refine lv_iload hx hb dX7_drift_87 (lv_at hl 1 rfl) ?_
                  obtain ⟨q15, hq15, hf⟩ := bd_x hf
                  have hFc := freeS hD hS hA
                  refine va_callv (va_runV (As := [.int v5, .int v7]) (rest := []) ⟨hx, hb, hml, hown, hG⟩ (c_X7_doRead l D cI cZ a q8.2 v5 v7 H.size hq15) (cwV 2 hG (gV g_717 g_718 g_54 g_77 g_719) rfl rfl rfl (by decide +kernel) ⟨Nat.le_of_ble_eq_true rfl, Nat.le_of_ble_eq_true rfl⟩) ⟨pre_blind, va_recv hK hP (ci := 7) (q0 := 0) rfl rfl, fun U hU hW => ⟨rfl, pre_of hP hK hD hnw hU hW⟩⟩ rfl rfl hl.1 rfl (lv_room (Nat.le_of_ble_eq_true rfl)) dX7_drift_89 ⟨Nat.le_of_ble_eq_true rfl, Nat.le_of_ble_eq_true rfl⟩) hS (fun q _ h => hFc q h) hFc (fun u t H locs ht hvm hw hB hz1 hk1 hS => ?_)
                  have hw := hw.symm; subst hw
                  obtain ⟨hP1, hD1⟩ := hB
                  rw [ht] at hP1
                  have hP := hP1
                  have hD := hD1.weaken (fun _ q _ h => hFc q.1 h)
                  refine lv_goto (tgt := 118) hx hb dX7_drift_92 (by decide) ?_
                  exact J118 q15 _ _ _ hP hD hS (lv_sub hl [3, 4, 5] rfl) hf
          exact L49 FU (0 : Int32) x _ _ _ hP hD hS (lv_sub hl [1, 2, 0] rfl) hf
        · have hf := if_f cc41 hf
          refine lv_ldc hx hb hown (hG _ g_606) dX7_drift_44 ?_
          exact W.iret (v := (-1000000004 : Int32)) hx hb hr (fun t ht hW => ⟨⟨(-1000000004 : Int32), x, rfl, ⟨pr_1 hf, pr_2 hf⟩, by rw [ht]; exact hP, hD⟩, hS.F ht⟩) hS.2.2 dX7_drift_46
      · have hf := if_t cc26 hf
        refine lv_ldc hx hb hown (hG _ g_746) dX7_drift_29 ?_
        exact W.iret (v := (-1000000003 : Int32)) hx hb hr (fun t ht hW => ⟨⟨(-1000000003 : Int32), x, rfl, ⟨pr_1 hf, pr_2 hf⟩, by rw [ht]; exact hP, hD⟩, hS.F ht⟩) hS.2.2 dX7_drift_31
  · have hf := if_t cc9 hf
    refine lv_ldc hx hb hown (hG _ g_605) dX7_drift_12 ?_
    exact W.iret (v := (-1000000002 : Int32)) hx hb hr (fun t ht hW => ⟨⟨(-1000000002 : Int32), x, rfl, ⟨pr_1 hf, pr_2 hf⟩, by rw [ht]; exact hP, hD⟩, hS.F ht⟩) hS.2.2 dX7_drift_14
def f_X7_fameOf_j35 (rc4 : Int32 → Int32 → Option (Int32)) (v1 : Int32) (v2 : Int32) (v4 : Int32) : Option (Int32) := nm (v1 + v4) (fun (v5 : Int32) => nm (v2 + (1 : Int32)) (fun (v6 : Int32) => rc4 v5 v6))
def f_X7_fameOf_b4 (x : HC) (p1 : Int32) (rc4 : Int32 → Int32 → Option (Int32)) (v1 : Int32) (v2 : Int32) : Option (Int32) := (if (x 0 11) ≤ v2 then some v1 else bd (f_X7_has p1 v2) (fun (q3 : Int32) => (if q3 = 0 then f_X7_fameOf_j35 rc4 v1 v2 (0 : Int32) else (if inb (((4 : Int32) * v2) + (3 : Int32)) 24 then f_X7_fameOf_j35 rc4 v1 v2 (x 7 (Int32.toNatClampNeg (((4 : Int32) * v2) + (3 : Int32)))) else none))))
def f_X7_fameOf (x : HC) (p1 : Int32) : Option (Int32) := lp (fun _ _ => none : Int32 → Int32 → Option (Int32)) (f_X7_fameOf_b4 x p1) FU (0 : Int32) (0 : Int32)
abbrev RM_X7_fameOf : Room := { frames := 1, cells := 0, slots := 0, locals := 21 }
set_option maxHeartbeats 4000000 in
set_option maxRecDepth 100000 in
theorem c_X7_fameOf (l : Launch) (D : va_G) (cI cZ : ClassId) (a : Nat → Nat) (x : HC) (p1 : Int32) (sz : Nat) {r : Int32} (hf : f_X7_fameOf x p1 = some r) : Met l yX7_fameOf (wM yX7_fameOf cX7_fameOf 4 (some .int)) RM_X7_fameOf (va_Pc [.ref (a 0), .int p1] (pre D cI cZ (kM cI cZ a x) sz)) (QI0 D (va_A (kM cI cZ a x) sz) (kM cI cZ a x) r) 0 0 (va_A (kM cI cZ a x) sz) := by
  unfold f_X7_fameOf at hf
  refine Met.ofW (cc := cX7_fameOf) (maxL := 4) (ret := (some .int)) (by decide) rfl ?_
  intro p e s m args below meth c s₁ B hml hv
  obtain ⟨rfl, hsz, hP, hK, hD0, hnw⟩ := hv
  have hx := B.exec
  have hb := B.bytes
  have hr := B.returns
  have hts := atoms_spec (ws := wM yX7_fameOf cX7_fameOf 4 (some .int)) B.pre
  have hG : ∀ w ∈ GW, w.before (([.ref (a 0), .int p1] : List Value).toArray) s = true := fun w h => hts w (List.mem_cons_of_mem _ h)
  have hown : s.vm.findClass RX7 = some m.cls := findClass_of_methodNamed B.named
  have hlocks := B.notSynchronized
  subst hsz
  have hD := hD0.self (sz := s.heap.size)
  generalize hAe : va_A (kM cI cZ a x) s.heap.size = A at hD ⊢
  have hA : ∀ q : Nat, s.heap.size ≤ q → A q := fun q h => by rw [← hAe]; exact Or.inr h
  have hS : va_S A s.heap s.heap [] := va_S.rf
  have hl := lv_entry ([.ref (a 0), .int p1]) (n := 4) (Nat.le_of_ble_eq_true rfl)
  rw [lg_entry_eq]
  generalize (lg_sl ([.ref (a 0), .int p1]) ++ List.replicate (4 - (lg_sl ([.ref (a 0), .int p1])).length) Slot.unset).toArray = ls at hl ⊢
  have hl : lv_has ls 4 [(0, .ref (a 0)), (1, .int p1)] := hl
  show W p l e RM_X7_fameOf s m (([.ref (a 0), .int p1] : List Value).toArray) below meth c s.heap [] 0 0 (MQ below (QI0 D A (kM cI cZ a x) r) (([.ref (a 0), .int p1] : List Value).toArray) s 0 0 A) (F0 m 0 ls [])
  refine lv_iconst (v := (0 : Int32)) hx hb dX7_fameOf_0 (by decide) ?_
  refine lv_istore_n (lv' := [(2, .int (0 : Int32)), (0, .ref (a 0)), (1, .int p1)]) hx hb dX7_fameOf_1 rfl hl (by decide) rfl (fun ls hl => ?_)
  refine lv_iconst (v := (0 : Int32)) hx hb dX7_fameOf_2 (by decide) ?_
  refine lv_istore_n (lv' := [(3, .int (0 : Int32)), (2, .int (0 : Int32)), (0, .ref (a 0)), (1, .int p1)]) hx hb dX7_fameOf_3 rfl hl (by decide) rfl (fun ls hl => ?_)
  have L4 : ∀ (n : Nat) (v1 : Int32) (v2 : Int32) (H : Heap) (locs : List Loc) (ls : Array Slot), va_P D vwCl (kM cI cZ a x) H → va_D A (kM cI cZ a x) → va_S A s.heap H locs → lv_has ls 4 [(0, .ref (a 0)), (1, .int p1), (2, .int v1), (3, .int v2)] → lp (fun _ _ => none : Int32 → Int32 → Option (Int32)) (f_X7_fameOf_b4 x p1) n v1 v2 = some r → W p l e RM_X7_fameOf s m (([.ref (a 0), .int p1] : List Value).toArray) below meth c H locs 0 0 (MQ below (QI0 D A (kM cI cZ a x) r) (([.ref (a 0), .int p1] : List Value).toArray) s 0 0 A) (F0 m 4 ls []) := by
    intro n
    induction n with
    | zero => intro v1 v2 H locs ls _ _ _ _ hf; cases (show (none : Option (Int32)) = some r from hf)
    | succ n ih4 =>
      intro v1 v2 H locs ls hP hD hS hl hf
      have hf : (f_X7_fameOf_b4 x p1) (lp (fun _ _ => none : Int32 → Int32 → Option (Int32)) (f_X7_fameOf_b4 x p1) n) v1 v2 = some r := hf
      generalize lp (fun _ _ => none : Int32 → Int32 → Option (Int32)) (f_X7_fameOf_b4 x p1) n = rc4 at ih4 hf
      unfold f_X7_fameOf_b4 at hf
      refine lv_iload_n hx hb dX7_fameOf_4 rfl (lv_at hl 3 rfl) ?_
      refine lv_aload_n hx hb dX7_fameOf_5 rfl (lv_at hl 0 rfl) ?_
      refine va_get (D := D) (ci := 7) (v := .int (x 0 11)) (C := RX7) (T := TX7) (N := 32) hx hb hG inG7 hown hK hP 0 at_M_0_0 rfl 11 (by decide) (hG _ g_575) (fun _ h9 => h9) rfl dX7_fameOf_6 ?_
      refine lv_icmp_ge (tgt := 43) hx hb dX7_fameOf_9 (by decide) (fun cc9 => ?_) (fun cc9 => ?_)
      · have hf := if_t cc9 hf
        refine lv_iload_n hx hb dX7_fameOf_43 rfl (lv_at hl 2 rfl) ?_
        exact W.iret (v := v1) hx hb hr (fun t ht hW => ⟨⟨v1, (), rfl, Option.some.inj hf, by rw [ht]; exact hP, hD⟩, hS.F ht⟩) hS.2.2 dX7_fameOf_44
      · have hf := if_f cc9 hf
        refine lv_iload_n hx hb dX7_fameOf_12 rfl (lv_at hl 2 rfl) ?_
        refine lv_iload_n hx hb dX7_fameOf_13 rfl (lv_at hl 1 rfl) ?_
        refine lv_iload_n hx hb dX7_fameOf_14 rfl (lv_at hl 3 rfl) ?_
        obtain ⟨q3, hq3, hf⟩ := bd_x hf
        have hFc := va_free (wc := []) hD hS hA [] rfl
        refine va_calli (va_runS (As := [.int p1, .int v2]) (rest := [.int v1]) ⟨hx, hb, hml, hown, hG⟩ (c_X7_has l D cI cZ p1 v2 H.size hq3) (cwS 2 hG (gS g_643 g_644 g_77 g_645) rfl rfl rfl (by decide +kernel) ⟨Nat.le_of_ble_eq_true rfl, Nat.le_of_ble_eq_true rfl⟩) ⟨pre_blind, fun U hU hW => ⟨rfl, pre_of P_nil hK D_nil hnw hU hW⟩⟩ rfl rfl hl.1 rfl (lv_room (Nat.le_of_ble_eq_true rfl)) dX7_fameOf_15 ⟨Nat.le_of_ble_eq_true rfl, Nat.le_of_ble_eq_true rfl⟩) hS (fun q _ h => hFc q h) hFc (fun v u t H locs ht hvm hw hB hz1 hk1 hS => ?_)
        have hw := hw.symm; subst hw
        obtain ⟨hP1, hD1⟩ := hB
        rw [ht] at hP1
        obtain ⟨hP, hD⟩ := back hP hD [] rfl rfl hk1 hFc hP1 hD1
        have J35 : ∀ (v4 : Int32) (H : Heap) (locs : List Loc) (ls : Array Slot), va_P D vwCl (kM cI cZ a x) H → va_D A (kM cI cZ a x) → va_S A s.heap H locs → lv_has ls 4 [(0, .ref (a 0)), (1, .int p1), (3, .int v2)] → f_X7_fameOf_j35 rc4 v1 v2 v4 = some r → W p l e RM_X7_fameOf s m (([.ref (a 0), .int p1] : List Value).toArray) below meth c H locs 0 0 (MQ below (QI0 D A (kM cI cZ a x) r) (([.ref (a 0), .int p1] : List Value).toArray) s 0 0 A) (F0 m 35 ls [.int v4, .int v1]) := by
          intro v4 H locs ls hP hD hS hl hf
          unfold f_X7_fameOf_j35 at hf
          refine lv_iadd hx hb dX7_fameOf_35 ?_
          refine lv_topi (fun v5 ev5 => ?_)
          have hf := nm_x ev5 hf
          refine lv_istore_n (lv' := [(2, .int v5), (0, .ref (a 0)), (1, .int p1), (3, .int v2)]) hx hb dX7_fameOf_36 rfl hl (by decide) rfl (fun ls hl => ?_)
          obtain ⟨v6, ev6⟩ : ∃ y : Int32, y = (v2 + (1 : Int32)) := ⟨_, rfl⟩
          have hf := nm_x ev6 hf
          refine lv_iinc (v := v6) (lv' := [(3, .int v6), (2, .int v5), (0, .ref (a 0)), (1, .int p1)]) hx hb dX7_fameOf_37 hl (k := 3) rfl (by rw [ev6]; rfl) (by decide) rfl (fun ls hl => ?_)
          refine lv_goto (tgt := 4) hx hb dX7_fameOf_40 (by decide) ?_
          exact ih4 v5 v6 _ _ _ hP hD hS (lv_sub hl [2, 3, 1, 0] rfl) hf
        refine lv_if_eq (tgt := 34) hx hb dX7_fameOf_18 (by decide) (fun cc18 => ?_) (fun cc18 => ?_)
        · have hf := if_t cc18 hf
          refine lv_iconst (v := (0 : Int32)) hx hb dX7_fameOf_34 (by decide) ?_
          exact J35 (0 : Int32) _ _ _ hP hD hS (lv_sub hl [0, 1, 3] rfl) hf
        · have hf := if_f cc18 hf
          refine lv_aload_n hx hb dX7_fameOf_21 rfl (lv_at hl 0 rfl) ?_
          refine va_get (D := D) (ci := 7) (v := .ref (a 7)) (C := RX7) (T := TX7) (N := 32) hx hb hG inG7 hown hK hP 0 at_M_0_0 rfl 12 (by decide) (hG _ g_576) (fun _ h9 => h9) rfl dX7_fameOf_22 ?_
          refine lv_iconst (v := (4 : Int32)) hx hb dX7_fameOf_25 (by decide) ?_
          refine lv_iload_n hx hb dX7_fameOf_26 rfl (lv_at hl 3 rfl) ?_
          refine lv_imul hx hb dX7_fameOf_27 ?_
          refine lv_iconst (v := (3 : Int32)) hx hb dX7_fameOf_28 (by decide) ?_
          refine lv_iadd hx hb dX7_fameOf_29 ?_
          obtain ⟨hb30, hf⟩ := gd hf
          refine va_iald (cA := cI) (n := 24) (f := x 7) hx hb hK hP 7 0 at_M_0_7 rfl (inb_in hb30) dX7_fameOf_30 ?_
          refine lv_goto (tgt := 35) hx hb dX7_fameOf_31 (by decide) ?_
          exact J35 (x 7 (Int32.toNatClampNeg (((4 : Int32) * v2) + (3 : Int32)))) _ _ _ hP hD hS (lv_sub hl [0, 1, 3] rfl) hf
  exact L4 FU (0 : Int32) (0 : Int32) _ _ _ hP hD hS (lv_sub hl [2, 3, 1, 0] rfl) hf
def f_X7_leastTricks_j92 (rc59 : Int32 → Option (Int32)) (v7 : Int32)  : Option (Int32) := nm (v7 + (1 : Int32)) (fun (v8 : Int32) => rc59 v8)
def f_X7_leastTricks_b59 (x : HC) (p1 : Int32) (p2 : Int32) (v4 : Int32) (v6 : Int32) (rc59 : Int32 → Option (Int32)) (v7 : Int32) : Option (Int32) := (if (16 : Int32) ≤ v7 then some (-1 : Int32) else (if (v7 &&& (v6 ^^^ (-1 : Int32))) = 0 then bd (f_X7_passes x p1 p2 v7 v4) (fun (q9 : Int32) => (if q9 = 0 then f_X7_leastTricks_j92 rc59 v7 else some v7)) else f_X7_leastTricks_j92 rc59 v7))
def f_X7_leastTricks_j35 (x : HC) (p1 : Int32) (p2 : Int32) (v4 : Int32) : Option (Int32) := bd (f_X7_tricksOf x p2) (fun (q5 : Int32) => (if inb ((40 : Int32) + p1) 141 then nm (q5 &&& ((x 1 (Int32.toNatClampNeg ((40 : Int32) + p1))) ^^^ (-1 : Int32))) (fun (v6 : Int32) => lp (fun _ => none : Int32 → Option (Int32)) (f_X7_leastTricks_b59 x p1 p2 v4 v6) FU (0 : Int32)) else none))
def f_X7_leastTricks (x : HC) (p1 : Int32) (p2 : Int32) (p3 : Int32) : Option (Int32) := (if inb ((4 : Int32) * p2) 24 then bd (f_X7_thought x (x 7 (Int32.toNatClampNeg ((4 : Int32) * p2))) p1) (fun (q1 : Int32) => bd (f_X7_fameOf x p3) (fun (q2 : Int32) => nm (q1 + q2) (fun (v3 : Int32) => (if v3 ≤ (99 : Int32) then f_X7_leastTricks_j35 x p1 p2 v3 else f_X7_leastTricks_j35 x p1 p2 (99 : Int32))))) else none)
abbrev RM_X7_leastTricks : Room := { frames := 2, cells := 0, slots := 0, locals := 48 }
set_option maxHeartbeats 4000000 in
set_option maxRecDepth 100000 in
theorem c_X7_leastTricks (l : Launch) (D : va_G) (cI cZ : ClassId) (a : Nat → Nat) (x : HC) (p1 : Int32) (p2 : Int32) (p3 : Int32) (sz : Nat) {r : Int32} (hf : f_X7_leastTricks x p1 p2 p3 = some r) : Met l yX7_leastTricks (wM yX7_leastTricks cX7_leastTricks 7 (some .int)) RM_X7_leastTricks (va_Pc [.ref (a 0), .int p1, .int p2, .int p3] (pre D cI cZ (kM cI cZ a x) sz)) (QI0 D (va_A (kM cI cZ a x) sz) (kM cI cZ a x) r) 0 0 (va_A (kM cI cZ a x) sz) := by
  unfold f_X7_leastTricks at hf
  refine Met.ofW (cc := cX7_leastTricks) (maxL := 7) (ret := (some .int)) (by decide) rfl ?_
  intro p e s m args below meth c s₁ B hml hv
  obtain ⟨rfl, hsz, hP, hK, hD0, hnw⟩ := hv
  have hx := B.exec
  have hb := B.bytes
  have hr := B.returns
  have hts := atoms_spec (ws := wM yX7_leastTricks cX7_leastTricks 7 (some .int)) B.pre
  have hG : ∀ w ∈ GW, w.before (([.ref (a 0), .int p1, .int p2, .int p3] : List Value).toArray) s = true := fun w h => hts w (List.mem_cons_of_mem _ h)
  have hown : s.vm.findClass RX7 = some m.cls := findClass_of_methodNamed B.named
  have hlocks := B.notSynchronized
  subst hsz
  have hD := hD0.self (sz := s.heap.size)
  generalize hAe : va_A (kM cI cZ a x) s.heap.size = A at hD ⊢
  have hA : ∀ q : Nat, s.heap.size ≤ q → A q := fun q h => by rw [← hAe]; exact Or.inr h
  have hS : va_S A s.heap s.heap [] := va_S.rf
  have hl := lv_entry ([.ref (a 0), .int p1, .int p2, .int p3]) (n := 7) (Nat.le_of_ble_eq_true rfl)
  rw [lg_entry_eq]
  generalize (lg_sl ([.ref (a 0), .int p1, .int p2, .int p3]) ++ List.replicate (7 - (lg_sl ([.ref (a 0), .int p1, .int p2, .int p3])).length) Slot.unset).toArray = ls at hl ⊢
  have hl : lv_has ls 7 [(0, .ref (a 0)), (1, .int p1), (2, .int p2), (3, .int p3)] := hl
  show W p l e RM_X7_leastTricks s m (([.ref (a 0), .int p1, .int p2, .int p3] : List Value).toArray) below meth c s.heap [] 0 0 (MQ below (QI0 D A (kM cI cZ a x) r) (([.ref (a 0), .int p1, .int p2, .int p3] : List Value).toArray) s 0 0 A) (F0 m 0 ls [])
  refine lv_aload_n hx hb dX7_leastTricks_0 rfl (lv_at hl 0 rfl) ?_
  refine lv_aload_n hx hb dX7_leastTricks_1 rfl (lv_at hl 0 rfl) ?_
  refine va_get (D := D) (ci := 7) (v := .ref (a 7)) (C := RX7) (T := TX7) (N := 32) hx hb hG inG7 hown hK hP 0 at_M_0_0 rfl 12 (by decide) (hG _ g_576) (fun _ h9 => h9) rfl dX7_leastTricks_2 ?_
  refine lv_iconst (v := (4 : Int32)) hx hb dX7_leastTricks_5 (by decide) ?_
  refine lv_iload_n hx hb dX7_leastTricks_6 rfl (lv_at hl 2 rfl) ?_
  refine lv_imul hx hb dX7_leastTricks_7 ?_
  obtain ⟨hb8, hf⟩ := gd hf
  refine va_iald (cA := cI) (n := 24) (f := x 7) hx hb hK hP 7 0 at_M_0_7 rfl (inb_in hb8) dX7_leastTricks_8 ?_
  refine lv_iload_n hx hb dX7_leastTricks_9 rfl (lv_at hl 1 rfl) ?_
  obtain ⟨q1, hq1, hf⟩ := bd_x hf
  have hFc := freeS hD hS hA
  refine va_calli (va_runV (As := [.int (x 7 (Int32.toNatClampNeg ((4 : Int32) * p2))), .int p1]) (rest := []) ⟨hx, hb, hml, hown, hG⟩ (c_X7_thought l D cI cZ a x (x 7 (Int32.toNatClampNeg ((4 : Int32) * p2))) p1 s.heap.size hq1) (cwV 2 hG (gV g_666 g_667 g_46 g_77 g_668) rfl rfl rfl (by decide +kernel) ⟨Nat.le_of_ble_eq_true rfl, Nat.le_of_ble_eq_true rfl⟩) ⟨pre_blind, va_recv hK hP (ci := 7) (q0 := 0) rfl rfl, fun U hU hW => ⟨rfl, pre_of hP hK hD hnw hU hW⟩⟩ rfl rfl hl.1 rfl (lv_room (Nat.le_of_ble_eq_true rfl)) dX7_leastTricks_10 ⟨Nat.le_of_ble_eq_true rfl, Nat.le_of_ble_eq_true rfl⟩) hS (fun q _ h => hFc q h) hFc (fun v u t H locs ht hvm hw hB hz1 hk1 hS => ?_)
  have hw := hw.symm; subst hw
  obtain ⟨hP1, hD1⟩ := hB
  rw [ht] at hP1
  have hP := hP1
  have hD := hD1.weaken (fun _ q _ h => hFc q.1 h)
  refine lv_aload_n hx hb dX7_leastTricks_13 rfl (lv_at hl 0 rfl) ?_
  refine lv_iload_n hx hb dX7_leastTricks_14 rfl (lv_at hl 3 rfl) ?_
  obtain ⟨q2, hq2, hf⟩ := bd_x hf
  have hFc := freeS hD hS hA
  refine va_calli (va_runV (As := [.int p3]) (rest := [.int q1]) ⟨hx, hb, hml, hown, hG⟩ (c_X7_fameOf l D cI cZ a x p3 H.size hq2) (cwV 1 hG (gV g_775 g_776 g_63 g_77 g_777) rfl rfl rfl (by decide +kernel) ⟨Nat.le_of_ble_eq_true rfl, Nat.le_of_ble_eq_true rfl⟩) ⟨pre_blind, va_recv hK hP (ci := 7) (q0 := 0) rfl rfl, fun U hU hW => ⟨rfl, pre_of hP hK hD hnw hU hW⟩⟩ rfl rfl hl.1 rfl (lv_room (Nat.le_of_ble_eq_true rfl)) dX7_leastTricks_15 ⟨Nat.le_of_ble_eq_true rfl, Nat.le_of_ble_eq_true rfl⟩) hS (fun q _ h => hFc q h) hFc (fun v u t H locs ht hvm hw hB hz1 hk1 hS => ?_)
  have hw := hw.symm; subst hw
  obtain ⟨hP1, hD1⟩ := hB
  rw [ht] at hP1
  have hP := hP1
  have hD := hD1.weaken (fun _ q _ h => hFc q.1 h)
  refine lv_iadd hx hb dX7_leastTricks_18 ?_
  refine lv_topi (fun v3 ev3 => ?_)
  have hf := nm_x ev3 hf
  refine lv_istore (lv' := [(4, .int v3), (0, .ref (a 0)), (1, .int p1), (2, .int p2), (3, .int p3)]) hx hb dX7_leastTricks_19 hl (by decide) rfl (fun ls hl => ?_)
  refine lv_iload hx hb dX7_leastTricks_21 (lv_at hl 0 rfl) ?_
  refine lv_bipush (v := (99 : Int32)) hx hb dX7_leastTricks_23 (by decide) ?_
  have J35 : ∀ (v4 : Int32) (H : Heap) (locs : List Loc) (ls : Array Slot), va_P D vwCl (kM cI cZ a x) H → va_D A (kM cI cZ a x) → va_S A s.heap H locs → lv_has ls 7 [(0, .ref (a 0)), (1, .int p1), (2, .int p2)] → f_X7_leastTricks_j35 x p1 p2 v4 = some r → W p l e RM_X7_leastTricks s m (([.ref (a 0), .int p1, .int p2, .int p3] : List Value).toArray) below meth c H locs 0 0 (MQ below (QI0 D A (kM cI cZ a x) r) (([.ref (a 0), .int p1, .int p2, .int p3] : List Value).toArray) s 0 0 A) (F0 m 35 ls [.int v4]) := by
    intro v4 H locs ls hP hD hS hl hf
    unfold f_X7_leastTricks_j35 at hf
    refine lv_istore (lv' := [(4, .int v4), (0, .ref (a 0)), (1, .int p1), (2, .int p2)]) hx hb dX7_leastTricks_35 hl (by decide) rfl (fun ls hl => ?_)
    refine lv_aload_n hx hb dX7_leastTricks_37 rfl (lv_at hl 1 rfl) ?_
    refine lv_iload_n hx hb dX7_leastTricks_38 rfl (lv_at hl 3 rfl) ?_
    obtain ⟨q5, hq5, hf⟩ := bd_x hf
    have hFc := freeS hD hS hA
    refine va_calli (va_runV (As := [.int p2]) (rest := []) ⟨hx, hb, hml, hown, hG⟩ (c_X7_tricksOf l D cI cZ a x p2 H.size hq5) (cwV 1 hG (gV g_705 g_706 g_53 g_77 g_707) rfl rfl rfl (by decide +kernel) ⟨Nat.le_of_ble_eq_true rfl, Nat.le_of_ble_eq_true rfl⟩) ⟨pre_blind, va_recv hK hP (ci := 7) (q0 := 0) rfl rfl, fun U hU hW => ⟨rfl, pre_of hP hK hD hnw hU hW⟩⟩ rfl rfl hl.1 rfl (lv_room (Nat.le_of_ble_eq_true rfl)) dX7_leastTricks_39 ⟨Nat.le_of_ble_eq_true rfl, Nat.le_of_ble_eq_true rfl⟩) hS (fun q _ h => hFc q h) hFc (fun v u t H locs ht hvm hw hB hz1 hk1 hS => ?_)
    have hw := hw.symm; subst hw
    obtain ⟨hP1, hD1⟩ := hB
    rw [ht] at hP1
    have hP := hP1
    have hD := hD1.weaken (fun _ q _ h => hFc q.1 h)
    refine lv_aload_n hx hb dX7_leastTricks_42 rfl (lv_at hl 1 rfl) ?_
    refine va_get (D := D) (ci := 7) (v := .ref (a 1)) (C := RX7) (T := TX7) (N := 32) hx hb hG inG7 hown hK hP 0 at_M_0_0 rfl 0 (by decide) (hG _ g_564) (fun _ h9 => h9) rfl dX7_leastTricks_43 ?_
    refine lv_bipush (v := (40 : Int32)) hx hb dX7_leastTricks_46 (by decide) ?_
    refine lv_iload_n hx hb dX7_leastTricks_48 rfl (lv_at hl 2 rfl) ?_
    refine lv_iadd hx hb dX7_leastTricks_49 ?_
    obtain ⟨hb50, hf⟩ := gd hf
    refine va_iald (cA := cI) (n := 141) (f := x 1) hx hb hK hP 1 0 at_M_0_1 rfl (inb_in hb50) dX7_leastTricks_50 ?_
    refine lv_iconst (v := (-1 : Int32)) hx hb dX7_leastTricks_51 (by decide) ?_
    refine lv_ixor hx hb dX7_leastTricks_52 ?_
    refine lv_iand hx hb dX7_leastTricks_53 ?_
    refine lv_topi (fun v6 ev6 => ?_)
    have hf := nm_x ev6 hf
    refine lv_istore (lv' := [(5, .int v6), (4, .int v4), (0, .ref (a 0)), (1, .int p1), (2, .int p2)]) hx hb dX7_leastTricks_54 hl (by decide) rfl (fun ls hl => ?_)
    refine lv_iconst (v := (0 : Int32)) hx hb dX7_leastTricks_56 (by decide) ?_
    refine lv_istore (lv' := [(6, .int (0 : Int32)), (5, .int v6), (4, .int v4), (0, .ref (a 0)), (1, .int p1), (2, .int p2)]) hx hb dX7_leastTricks_57 hl (by decide) rfl (fun ls hl => ?_)
    have L59 : ∀ (n : Nat) (v7 : Int32) (H : Heap) (locs : List Loc) (ls : Array Slot), va_P D vwCl (kM cI cZ a x) H → va_D A (kM cI cZ a x) → va_S A s.heap H locs → lv_has ls 7 [(0, .ref (a 0)), (1, .int p1), (2, .int p2), (4, .int v4), (5, .int v6), (6, .int v7)] → lp (fun _ => none : Int32 → Option (Int32)) (f_X7_leastTricks_b59 x p1 p2 v4 v6) n v7 = some r → W p l e RM_X7_leastTricks s m (([.ref (a 0), .int p1, .int p2, .int p3] : List Value).toArray) below meth c H locs 0 0 (MQ below (QI0 D A (kM cI cZ a x) r) (([.ref (a 0), .int p1, .int p2, .int p3] : List Value).toArray) s 0 0 A) (F0 m 59 ls []) := by
      intro n
      induction n with
      | zero => intro v7 H locs ls _ _ _ _ hf; cases (show (none : Option (Int32)) = some r from hf)
      | succ n ih59 =>
        intro v7 H locs ls hP hD hS hl hf
        have hf : (f_X7_leastTricks_b59 x p1 p2 v4 v6) (lp (fun _ => none : Int32 → Option (Int32)) (f_X7_leastTricks_b59 x p1 p2 v4 v6) n) v7 = some r := hf
        generalize lp (fun _ => none : Int32 → Option (Int32)) (f_X7_leastTricks_b59 x p1 p2 v4 v6) n = rc59 at ih59 hf
        unfold f_X7_leastTricks_b59 at hf
        refine lv_iload hx hb dX7_leastTricks_59 (lv_at hl 5 rfl) ?_
        refine lv_bipush (v := (16 : Int32)) hx hb dX7_leastTricks_61 (by decide) ?_
        refine lv_icmp_ge (tgt := 98) hx hb dX7_leastTricks_63 (by decide) (fun cc63 => ?_) (fun cc63 => ?_)
        · have hf := if_t cc63 hf
          refine lv_iconst (v := (-1 : Int32)) hx hb dX7_leastTricks_98 (by decide) ?_
          exact W.iret (v := (-1 : Int32)) hx hb hr (fun t ht hW => ⟨⟨(-1 : Int32), (), rfl, Option.some.inj hf, by rw [ht]; exact hP, hD⟩, hS.F ht⟩) hS.2.2 dX7_leastTricks_99
        · have hf := if_f cc63 hf
          refine lv_iload hx hb dX7_leastTricks_66 (lv_at hl 5 rfl) ?_
          refine lv_iload hx hb dX7_leastTricks_68 (lv_at hl 4 rfl) ?_
          refine lv_iconst (v := (-1 : Int32)) hx hb dX7_leastTricks_70 (by decide) ?_
          refine lv_ixor hx hb dX7_leastTricks_71 ?_
          refine lv_iand hx hb dX7_leastTricks_72 ?_
          have J92 : ∀  (H : Heap) (locs : List Loc) (ls : Array Slot), va_P D vwCl (kM cI cZ a x) H → va_D A (kM cI cZ a x) → va_S A s.heap H locs → lv_has ls 7 [(0, .ref (a 0)), (1, .int p1), (2, .int p2), (4, .int v4), (5, .int v6), (6, .int v7)] → f_X7_leastTricks_j92 rc59 v7  = some r → W p l e RM_X7_leastTricks s m (([.ref (a 0), .int p1, .int p2, .int p3] : List Value).toArray) below meth c H locs 0 0 (MQ below (QI0 D A (kM cI cZ a x) r) (([.ref (a 0), .int p1, .int p2, .int p3] : List Value).toArray) s 0 0 A) (F0 m 92 ls []) := by
            intro  H locs ls hP hD hS hl hf
            unfold f_X7_leastTricks_j92 at hf
            obtain ⟨v8, ev8⟩ : ∃ y : Int32, y = (v7 + (1 : Int32)) := ⟨_, rfl⟩
            have hf := nm_x ev8 hf
            refine lv_iinc (v := v8) (lv' := [(6, .int v8), (0, .ref (a 0)), (1, .int p1), (2, .int p2), (4, .int v4), (5, .int v6)]) hx hb dX7_leastTricks_92 hl (k := 5) rfl (by rw [ev8]; rfl) (by decide) rfl (fun ls hl => ?_)
            refine lv_goto (tgt := 59) hx hb dX7_leastTricks_95 (by decide) ?_
            exact ih59 v8 _ _ _ hP hD hS (lv_sub hl [1, 2, 3, 4, 5, 0] rfl) hf
          refine lv_if_ne (tgt := 92) hx hb dX7_leastTricks_73 (by decide) (fun cc73 => ?_) (fun cc73 => ?_)
          · have hf := if_f cc73 hf
            exact J92  _ _ _ hP hD hS (lv_sub hl [0, 1, 2, 3, 4, 5] rfl) hf
          · have hf := if_t cc73 hf
            refine lv_aload_n hx hb dX7_leastTricks_76 rfl (lv_at hl 0 rfl) ?_
            refine lv_iload_n hx hb dX7_leastTricks_77 rfl (lv_at hl 1 rfl) ?_
            refine lv_iload_n hx hb dX7_leastTricks_78 rfl (lv_at hl 2 rfl) ?_
            refine lv_iload hx hb dX7_leastTricks_79 (lv_at hl 5 rfl) ?_
            refine lv_iload hx hb dX7_leastTricks_81 (lv_at hl 3 rfl) ?_
            obtain ⟨q9, hq9, hf⟩ := bd_x hf
            have hFc := freeS hD hS hA
            refine va_calli (va_runV (As := [.int p1, .int p2, .int v7, .int v4]) (rest := []) ⟨hx, hb, hml, hown, hG⟩ (c_X7_passes l D cI cZ a x p1 p2 v7 v4 H.size hq9) (cwV 4 hG (gV g_747 g_748 g_58 g_77 g_749) rfl rfl rfl (by decide +kernel) ⟨Nat.le_of_ble_eq_true rfl, Nat.le_of_ble_eq_true rfl⟩) ⟨pre_blind, va_recv hK hP (ci := 7) (q0 := 0) rfl rfl, fun U hU hW => ⟨rfl, pre_of hP hK hD hnw hU hW⟩⟩ rfl rfl hl.1 rfl (lv_room (Nat.le_of_ble_eq_true rfl)) dX7_leastTricks_83 ⟨Nat.le_of_ble_eq_true rfl, Nat.le_of_ble_eq_true rfl⟩) hS (fun q _ h => hFc q h) hFc (fun v u t H locs ht hvm hw hB hz1 hk1 hS => ?_)
            have hw := hw.symm; subst hw
            obtain ⟨hP1, hD1⟩ := hB
            rw [ht] at hP1
            have hP := hP1
            have hD := hD1.weaken (fun _ q _ h => hFc q.1 h)
            refine lv_if_eq (tgt := 92) hx hb dX7_leastTricks_86 (by decide) (fun cc86 => ?_) (fun cc86 => ?_)
            · have hf := if_t cc86 hf
              exact J92  _ _ _ hP hD hS (lv_sub hl [0, 1, 2, 3, 4, 5] rfl) hf
            · have hf := if_f cc86 hf
              refine lv_iload hx hb dX7_leastTricks_89 (lv_at hl 5 rfl) ?_
              exact W.iret (v := v7) hx hb hr (fun t ht hW => ⟨⟨v7, (), rfl, Option.some.inj hf, by rw [ht]; exact hP, hD⟩, hS.F ht⟩) hS.2.2 dX7_leastTricks_91
    exact L59 FU (0 : Int32) _ _ _ hP hD hS (lv_sub hl [3, 4, 5, 2, 1, 0] rfl) hf
  refine lv_icmp_le (tgt := 33) hx hb dX7_leastTricks_25 (by decide) (fun cc25 => ?_) (fun cc25 => ?_)
  · have hf := if_t cc25 hf
    refine lv_iload hx hb dX7_leastTricks_33 (lv_at hl 0 rfl) ?_
    exact J35 v3 _ _ _ hP hD hS (lv_sub hl [1, 2, 3] rfl) hf
  · have hf := if_f cc25 hf
    refine lv_bipush (v := (99 : Int32)) hx hb dX7_leastTricks_28 (by decide) ?_
    refine lv_goto (tgt := 35) hx hb dX7_leastTricks_30 (by decide) ?_
    exact J35 (99 : Int32) _ _ _ hP hD hS (lv_sub hl [1, 2, 3] rfl) hf
def f_X7_nextTask_j47 (rc2 : Int32 → Option (Int32)) (v1 : Int32)  : Option (Int32) := nm (v1 + (1 : Int32)) (fun (v3 : Int32) => rc2 v3)
def f_X7_nextTask_b2 (x : HC) (p1 : Int32) (p2 : Int32) (rc2 : Int32 → Option (Int32)) (v1 : Int32) : Option (Int32) := (if (x 0 11) ≤ v1 then some (-1 : Int32) else (if inb ((35 : Int32) + p1) 141 then bd (f_X7_has (x 1 (Int32.toNatClampNeg ((35 : Int32) + p1))) v1) (fun (q2 : Int32) => (if q2 = 0 then bd (f_X7_has p2 v1) (fun (q4 : Int32) => (if q4 = 0 then bd (f_X7_leastTricks x p1 v1 p2) (fun (q5 : Int32) => (if q5 = (-1 : Int32) then f_X7_nextTask_j47 rc2 v1 else some v1)) else f_X7_nextTask_j47 rc2 v1)) else f_X7_nextTask_j47 rc2 v1)) else none))
def f_X7_nextTask (x : HC) (p1 : Int32) (p2 : Int32) : Option (Int32) := lp (fun _ => none : Int32 → Option (Int32)) (f_X7_nextTask_b2 x p1 p2) FU (0 : Int32)
abbrev RM_X7_nextTask : Room := { frames := 3, cells := 0, slots := 0, locals := 74 }
set_option maxHeartbeats 4000000 in
set_option maxRecDepth 100000 in
theorem c_X7_nextTask (l : Launch) (D : va_G) (cI cZ : ClassId) (a : Nat → Nat) (x : HC) (p1 : Int32) (p2 : Int32) (sz : Nat) {r : Int32} (hf : f_X7_nextTask x p1 p2 = some r) : Met l yX7_nextTask (wM yX7_nextTask cX7_nextTask 4 (some .int)) RM_X7_nextTask (va_Pc [.ref (a 0), .int p1, .int p2] (pre D cI cZ (kM cI cZ a x) sz)) (QI0 D (va_A (kM cI cZ a x) sz) (kM cI cZ a x) r) 0 0 (va_A (kM cI cZ a x) sz) := by
  unfold f_X7_nextTask at hf
  refine Met.ofW (cc := cX7_nextTask) (maxL := 4) (ret := (some .int)) (by decide) rfl ?_
  intro p e s m args below meth c s₁ B hml hv
  obtain ⟨rfl, hsz, hP, hK, hD0, hnw⟩ := hv
  have hx := B.exec
  have hb := B.bytes
  have hr := B.returns
  have hts := atoms_spec (ws := wM yX7_nextTask cX7_nextTask 4 (some .int)) B.pre
  have hG : ∀ w ∈ GW, w.before (([.ref (a 0), .int p1, .int p2] : List Value).toArray) s = true := fun w h => hts w (List.mem_cons_of_mem _ h)
  have hown : s.vm.findClass RX7 = some m.cls := findClass_of_methodNamed B.named
  have hlocks := B.notSynchronized
  subst hsz
  have hD := hD0.self (sz := s.heap.size)
  generalize hAe : va_A (kM cI cZ a x) s.heap.size = A at hD ⊢
  have hA : ∀ q : Nat, s.heap.size ≤ q → A q := fun q h => by rw [← hAe]; exact Or.inr h
  have hS : va_S A s.heap s.heap [] := va_S.rf
  have hl := lv_entry ([.ref (a 0), .int p1, .int p2]) (n := 4) (Nat.le_of_ble_eq_true rfl)
  rw [lg_entry_eq]
  generalize (lg_sl ([.ref (a 0), .int p1, .int p2]) ++ List.replicate (4 - (lg_sl ([.ref (a 0), .int p1, .int p2])).length) Slot.unset).toArray = ls at hl ⊢
  have hl : lv_has ls 4 [(0, .ref (a 0)), (1, .int p1), (2, .int p2)] := hl
  show W p l e RM_X7_nextTask s m (([.ref (a 0), .int p1, .int p2] : List Value).toArray) below meth c s.heap [] 0 0 (MQ below (QI0 D A (kM cI cZ a x) r) (([.ref (a 0), .int p1, .int p2] : List Value).toArray) s 0 0 A) (F0 m 0 ls [])
  refine lv_iconst (v := (0 : Int32)) hx hb dX7_nextTask_0 (by decide) ?_
  refine lv_istore_n (lv' := [(3, .int (0 : Int32)), (0, .ref (a 0)), (1, .int p1), (2, .int p2)]) hx hb dX7_nextTask_1 rfl hl (by decide) rfl (fun ls hl => ?_)
  have L2 : ∀ (n : Nat) (v1 : Int32) (H : Heap) (locs : List Loc) (ls : Array Slot), va_P D vwCl (kM cI cZ a x) H → va_D A (kM cI cZ a x) → va_S A s.heap H locs → lv_has ls 4 [(0, .ref (a 0)), (1, .int p1), (2, .int p2), (3, .int v1)] → lp (fun _ => none : Int32 → Option (Int32)) (f_X7_nextTask_b2 x p1 p2) n v1 = some r → W p l e RM_X7_nextTask s m (([.ref (a 0), .int p1, .int p2] : List Value).toArray) below meth c H locs 0 0 (MQ below (QI0 D A (kM cI cZ a x) r) (([.ref (a 0), .int p1, .int p2] : List Value).toArray) s 0 0 A) (F0 m 2 ls []) := by
    intro n
    induction n with
    | zero => intro v1 H locs ls _ _ _ _ hf; cases (show (none : Option (Int32)) = some r from hf)
    | succ n ih2 =>
      intro v1 H locs ls hP hD hS hl hf
      have hf : (f_X7_nextTask_b2 x p1 p2) (lp (fun _ => none : Int32 → Option (Int32)) (f_X7_nextTask_b2 x p1 p2) n) v1 = some r := hf
      generalize lp (fun _ => none : Int32 → Option (Int32)) (f_X7_nextTask_b2 x p1 p2) n = rc2 at ih2 hf
      unfold f_X7_nextTask_b2 at hf
      refine lv_iload_n hx hb dX7_nextTask_2 rfl (lv_at hl 3 rfl) ?_
      refine lv_aload_n hx hb dX7_nextTask_3 rfl (lv_at hl 0 rfl) ?_
      refine va_get (D := D) (ci := 7) (v := .int (x 0 11)) (C := RX7) (T := TX7) (N := 32) hx hb hG inG7 hown hK hP 0 at_M_0_0 rfl 11 (by decide) (hG _ g_575) (fun _ h9 => h9) rfl dX7_nextTask_4 ?_
      refine lv_icmp_ge (tgt := 53) hx hb dX7_nextTask_7 (by decide) (fun cc7 => ?_) (fun cc7 => ?_)
      · have hf := if_t cc7 hf
        refine lv_iconst (v := (-1 : Int32)) hx hb dX7_nextTask_53 (by decide) ?_
        exact W.iret (v := (-1 : Int32)) hx hb hr (fun t ht hW => ⟨⟨(-1 : Int32), (), rfl, Option.some.inj hf, by rw [ht]; exact hP, hD⟩, hS.F ht⟩) hS.2.2 dX7_nextTask_54
      · have hf := if_f cc7 hf
        refine lv_aload_n hx hb dX7_nextTask_10 rfl (lv_at hl 0 rfl) ?_
        refine va_get (D := D) (ci := 7) (v := .ref (a 1)) (C := RX7) (T := TX7) (N := 32) hx hb hG inG7 hown hK hP 0 at_M_0_0 rfl 0 (by decide) (hG _ g_564) (fun _ h9 => h9) rfl dX7_nextTask_11 ?_
        refine lv_bipush (v := (35 : Int32)) hx hb dX7_nextTask_14 (by decide) ?_
        refine lv_iload_n hx hb dX7_nextTask_16 rfl (lv_at hl 1 rfl) ?_
        refine lv_iadd hx hb dX7_nextTask_17 ?_
        obtain ⟨hb18, hf⟩ := gd hf
        refine va_iald (cA := cI) (n := 141) (f := x 1) hx hb hK hP 1 0 at_M_0_1 rfl (inb_in hb18) dX7_nextTask_18 ?_
        refine lv_iload_n hx hb dX7_nextTask_19 rfl (lv_at hl 3 rfl) ?_
        obtain ⟨q2, hq2, hf⟩ := bd_x hf
        have hFc := va_free (wc := []) hD hS hA [] rfl
        refine va_calli (va_runS (As := [.int (x 1 (Int32.toNatClampNeg ((35 : Int32) + p1))), .int v1]) (rest := []) ⟨hx, hb, hml, hown, hG⟩ (c_X7_has l D cI cZ (x 1 (Int32.toNatClampNeg ((35 : Int32) + p1))) v1 H.size hq2) (cwS 2 hG (gS g_643 g_644 g_77 g_645) rfl rfl rfl (by decide +kernel) ⟨Nat.le_of_ble_eq_true rfl, Nat.le_of_ble_eq_true rfl⟩) ⟨pre_blind, fun U hU hW => ⟨rfl, pre_of P_nil hK D_nil hnw hU hW⟩⟩ rfl rfl hl.1 rfl (lv_room (Nat.le_of_ble_eq_true rfl)) dX7_nextTask_20 ⟨Nat.le_of_ble_eq_true rfl, Nat.le_of_ble_eq_true rfl⟩) hS (fun q _ h => hFc q h) hFc (fun v u t H locs ht hvm hw hB hz1 hk1 hS => ?_)
        have hw := hw.symm; subst hw
        obtain ⟨hP1, hD1⟩ := hB
        rw [ht] at hP1
        obtain ⟨hP, hD⟩ := back hP hD [] rfl rfl hk1 hFc hP1 hD1
        have J47 : ∀  (H : Heap) (locs : List Loc) (ls : Array Slot), va_P D vwCl (kM cI cZ a x) H → va_D A (kM cI cZ a x) → va_S A s.heap H locs → lv_has ls 4 [(0, .ref (a 0)), (1, .int p1), (2, .int p2), (3, .int v1)] → f_X7_nextTask_j47 rc2 v1  = some r → W p l e RM_X7_nextTask s m (([.ref (a 0), .int p1, .int p2] : List Value).toArray) below meth c H locs 0 0 (MQ below (QI0 D A (kM cI cZ a x) r) (([.ref (a 0), .int p1, .int p2] : List Value).toArray) s 0 0 A) (F0 m 47 ls []) := by
          intro  H locs ls hP hD hS hl hf
          unfold f_X7_nextTask_j47 at hf
          obtain ⟨v3, ev3⟩ : ∃ y : Int32, y = (v1 + (1 : Int32)) := ⟨_, rfl⟩
          have hf := nm_x ev3 hf
          refine lv_iinc (v := v3) (lv' := [(3, .int v3), (0, .ref (a 0)), (1, .int p1), (2, .int p2)]) hx hb dX7_nextTask_47 hl (k := 3) rfl (by rw [ev3]; rfl) (by decide) rfl (fun ls hl => ?_)
          refine lv_goto (tgt := 2) hx hb dX7_nextTask_50 (by decide) ?_
          exact ih2 v3 _ _ _ hP hD hS (lv_sub hl [1, 2, 3, 0] rfl) hf
        refine lv_if_ne (tgt := 47) hx hb dX7_nextTask_23 (by decide) (fun cc23 => ?_) (fun cc23 => ?_)
        · have hf := if_f cc23 hf
          exact J47  _ _ _ hP hD hS (lv_sub hl [0, 1, 2, 3] rfl) hf
        · have hf := if_t cc23 hf
          refine lv_iload_n hx hb dX7_nextTask_26 rfl (lv_at hl 2 rfl) ?_
          refine lv_iload_n hx hb dX7_nextTask_27 rfl (lv_at hl 3 rfl) ?_
          obtain ⟨q4, hq4, hf⟩ := bd_x hf
          have hFc := va_free (wc := []) hD hS hA [] rfl
          refine va_calli (va_runS (As := [.int p2, .int v1]) (rest := []) ⟨hx, hb, hml, hown, hG⟩ (c_X7_has l D cI cZ p2 v1 H.size hq4) (cwS 2 hG (gS g_643 g_644 g_77 g_645) rfl rfl rfl (by decide +kernel) ⟨Nat.le_of_ble_eq_true rfl, Nat.le_of_ble_eq_true rfl⟩) ⟨pre_blind, fun U hU hW => ⟨rfl, pre_of P_nil hK D_nil hnw hU hW⟩⟩ rfl rfl hl.1 rfl (lv_room (Nat.le_of_ble_eq_true rfl)) dX7_nextTask_28 ⟨Nat.le_of_ble_eq_true rfl, Nat.le_of_ble_eq_true rfl⟩) hS (fun q _ h => hFc q h) hFc (fun v u t H locs ht hvm hw hB hz1 hk1 hS => ?_)
          have hw := hw.symm; subst hw
          obtain ⟨hP1, hD1⟩ := hB
          rw [ht] at hP1
          obtain ⟨hP, hD⟩ := back hP hD [] rfl rfl hk1 hFc hP1 hD1
          refine lv_if_ne (tgt := 47) hx hb dX7_nextTask_31 (by decide) (fun cc31 => ?_) (fun cc31 => ?_)
          · have hf := if_f cc31 hf
            exact J47  _ _ _ hP hD hS (lv_sub hl [0, 1, 2, 3] rfl) hf
          · have hf := if_t cc31 hf
            refine lv_aload_n hx hb dX7_nextTask_34 rfl (lv_at hl 0 rfl) ?_
            refine lv_iload_n hx hb dX7_nextTask_35 rfl (lv_at hl 1 rfl) ?_
            refine lv_iload_n hx hb dX7_nextTask_36 rfl (lv_at hl 3 rfl) ?_
            refine lv_iload_n hx hb dX7_nextTask_37 rfl (lv_at hl 2 rfl) ?_
            obtain ⟨q5, hq5, hf⟩ := bd_x hf
            have hFc := freeS hD hS hA
            refine va_calli (va_runV (As := [.int p1, .int v1, .int p2]) (rest := []) ⟨hx, hb, hml, hown, hG⟩ (c_X7_leastTricks l D cI cZ a x p1 v1 p2 H.size hq5) (cwV 3 hG (gV g_772 g_773 g_62 g_77 g_774) rfl rfl rfl (by decide +kernel) ⟨Nat.le_of_ble_eq_true rfl, Nat.le_of_ble_eq_true rfl⟩) ⟨pre_blind, va_recv hK hP (ci := 7) (q0 := 0) rfl rfl, fun U hU hW => ⟨rfl, pre_of hP hK hD hnw hU hW⟩⟩ rfl rfl hl.1 rfl (lv_room (Nat.le_of_ble_eq_true rfl)) dX7_nextTask_38 ⟨Nat.le_of_ble_eq_true rfl, Nat.le_of_ble_eq_true rfl⟩) hS (fun q _ h => hFc q h) hFc (fun v u t H locs ht hvm hw hB hz1 hk1 hS => ?_)
            have hw := hw.symm; subst hw
            obtain ⟨hP1, hD1⟩ := hB
            rw [ht] at hP1
            have hP := hP1
            have hD := hD1.weaken (fun _ q _ h => hFc q.1 h)
            refine lv_iconst (v := (-1 : Int32)) hx hb dX7_nextTask_41 (by decide) ?_
            refine lv_icmp_eq (tgt := 47) hx hb dX7_nextTask_42 (by decide) (fun cc42 => ?_) (fun cc42 => ?_)
            · have hf := if_t cc42 hf
              exact J47  _ _ _ hP hD hS (lv_sub hl [0, 1, 2, 3] rfl) hf
            · have hf := if_f cc42 hf
              refine lv_iload_n hx hb dX7_nextTask_45 rfl (lv_at hl 3 rfl) ?_
              exact W.iret (v := v1) hx hb hr (fun t ht hW => ⟨⟨v1, (), rfl, Option.some.inj hf, by rw [ht]; exact hP, hD⟩, hS.F ht⟩) hS.2.2 dX7_nextTask_46
  exact L2 FU (0 : Int32) _ _ _ hP hD hS (lv_sub hl [1, 2, 3, 0] rfl) hf
def f_X7_passable_b9 (x : HC) (p1 : Int32) (rc9 : Int32 → Int32 → Option (Int32)) (v2 : Int32) (v3 : Int32) : Option (Int32) := (if v3 = (-1 : Int32) then some v2 else nm (v2 ||| ((1 : Int32) <<< (v3 &&& 31))) (fun (v4 : Int32) => bd (f_X7_nextTask x p1 v4) (fun (q5 : Int32) => rc9 v4 q5)))
def f_X7_passable (x : HC) (p1 : Int32) : Option (Int32) := bd (f_X7_nextTask x p1 (0 : Int32)) (fun (q1 : Int32) => lp (fun _ _ => none : Int32 → Int32 → Option (Int32)) (f_X7_passable_b9 x p1) FU (0 : Int32) q1)
abbrev RM_X7_passable : Room := { frames := 4, cells := 0, slots := 0, locals := 97 }
set_option maxHeartbeats 4000000 in
set_option maxRecDepth 100000 in
theorem c_X7_passable (l : Launch) (D : va_G) (cI cZ : ClassId) (a : Nat → Nat) (x : HC) (p1 : Int32) (sz : Nat) {r : Int32} (hf : f_X7_passable x p1 = some r) : Met l yX7_passable (wM yX7_passable cX7_passable 4 (some .int)) RM_X7_passable (va_Pc [.ref (a 0), .int p1] (pre D cI cZ (kM cI cZ a x) sz)) (QI0 D (va_A (kM cI cZ a x) sz) (kM cI cZ a x) r) 0 0 (va_A (kM cI cZ a x) sz) := by
  unfold f_X7_passable at hf
  refine Met.ofW (cc := cX7_passable) (maxL := 4) (ret := (some .int)) (by decide) rfl ?_
  intro p e s m args below meth c s₁ B hml hv
  obtain ⟨rfl, hsz, hP, hK, hD0, hnw⟩ := hv
  have hx := B.exec
  have hb := B.bytes
  have hr := B.returns
  have hts := atoms_spec (ws := wM yX7_passable cX7_passable 4 (some .int)) B.pre
  have hG : ∀ w ∈ GW, w.before (([.ref (a 0), .int p1] : List Value).toArray) s = true := fun w h => hts w (List.mem_cons_of_mem _ h)
  have hown : s.vm.findClass RX7 = some m.cls := findClass_of_methodNamed B.named
  have hlocks := B.notSynchronized
  subst hsz
  have hD := hD0.self (sz := s.heap.size)
  generalize hAe : va_A (kM cI cZ a x) s.heap.size = A at hD ⊢
  have hA : ∀ q : Nat, s.heap.size ≤ q → A q := fun q h => by rw [← hAe]; exact Or.inr h
  have hS : va_S A s.heap s.heap [] := va_S.rf
  have hl := lv_entry ([.ref (a 0), .int p1]) (n := 4) (Nat.le_of_ble_eq_true rfl)
  rw [lg_entry_eq]
  generalize (lg_sl ([.ref (a 0), .int p1]) ++ List.replicate (4 - (lg_sl ([.ref (a 0), .int p1])).length) Slot.unset).toArray = ls at hl ⊢
  have hl : lv_has ls 4 [(0, .ref (a 0)), (1, .int p1)] := hl
  show W p l e RM_X7_passable s m (([.ref (a 0), .int p1] : List Value).toArray) below meth c s.heap [] 0 0 (MQ below (QI0 D A (kM cI cZ a x) r) (([.ref (a 0), .int p1] : List Value).toArray) s 0 0 A) (F0 m 0 ls [])
  refine lv_iconst (v := (0 : Int32)) hx hb dX7_passable_0 (by decide) ?_
  refine lv_istore_n (lv' := [(2, .int (0 : Int32)), (0, .ref (a 0)), (1, .int p1)]) hx hb dX7_passable_1 rfl hl (by decide) rfl (fun ls hl => ?_)
  refine lv_aload_n hx hb dX7_passable_2 rfl (lv_at hl 1 rfl) ?_
  refine lv_iload_n hx hb dX7_passable_3 rfl (lv_at hl 2 rfl) ?_
  refine lv_iload_n hx hb dX7_passable_4 rfl (lv_at hl 0 rfl) ?_
  obtain ⟨q1, hq1, hf⟩ := bd_x hf
  have hFc := freeS hD hS hA
  refine va_calli (va_runV (As := [.int p1, .int (0 : Int32)]) (rest := []) ⟨hx, hb, hml, hown, hG⟩ (c_X7_nextTask l D cI cZ a x p1 (0 : Int32) s.heap.size hq1) (cwV 2 hG (gV g_769 g_770 g_61 g_77 g_771) rfl rfl rfl (by decide +kernel) ⟨Nat.le_of_ble_eq_true rfl, Nat.le_of_ble_eq_true rfl⟩) ⟨pre_blind, va_recv hK hP (ci := 7) (q0 := 0) rfl rfl, fun U hU hW => ⟨rfl, pre_of hP hK hD hnw hU hW⟩⟩ rfl rfl hl.1 rfl (lv_room (Nat.le_of_ble_eq_true rfl)) dX7_passable_5 ⟨Nat.le_of_ble_eq_true rfl, Nat.le_of_ble_eq_true rfl⟩) hS (fun q _ h => hFc q h) hFc (fun v u t H locs ht hvm hw hB hz1 hk1 hS => ?_)
  have hw := hw.symm; subst hw
  obtain ⟨hP1, hD1⟩ := hB
  rw [ht] at hP1
  have hP := hP1
  have hD := hD1.weaken (fun _ q _ h => hFc q.1 h)
  refine lv_istore_n (lv' := [(3, .int q1), (2, .int (0 : Int32)), (0, .ref (a 0)), (1, .int p1)]) hx hb dX7_passable_8 rfl hl (by decide) rfl (fun ls hl => ?_)
  have L9 : ∀ (n : Nat) (v2 : Int32) (v3 : Int32) (H : Heap) (locs : List Loc) (ls : Array Slot), va_P D vwCl (kM cI cZ a x) H → va_D A (kM cI cZ a x) → va_S A s.heap H locs → lv_has ls 4 [(0, .ref (a 0)), (1, .int p1), (2, .int v2), (3, .int v3)] → lp (fun _ _ => none : Int32 → Int32 → Option (Int32)) (f_X7_passable_b9 x p1) n v2 v3 = some r → W p l e RM_X7_passable s m (([.ref (a 0), .int p1] : List Value).toArray) below meth c H locs 0 0 (MQ below (QI0 D A (kM cI cZ a x) r) (([.ref (a 0), .int p1] : List Value).toArray) s 0 0 A) (F0 m 9 ls []) := by
    intro n
    induction n with
    | zero => intro v2 v3 H locs ls _ _ _ _ hf; cases (show (none : Option (Int32)) = some r from hf)
    | succ n ih9 =>
      intro v2 v3 H locs ls hP hD hS hl hf
      have hf : (f_X7_passable_b9 x p1) (lp (fun _ _ => none : Int32 → Int32 → Option (Int32)) (f_X7_passable_b9 x p1) n) v2 v3 = some r := hf
      generalize lp (fun _ _ => none : Int32 → Int32 → Option (Int32)) (f_X7_passable_b9 x p1) n = rc9 at ih9 hf
      unfold f_X7_passable_b9 at hf
      refine lv_iload_n hx hb dX7_passable_9 rfl (lv_at hl 3 rfl) ?_
      refine lv_iconst (v := (-1 : Int32)) hx hb dX7_passable_10 (by decide) ?_
      refine lv_icmp_eq (tgt := 30) hx hb dX7_passable_11 (by decide) (fun cc11 => ?_) (fun cc11 => ?_)
      · have hf := if_t cc11 hf
        refine lv_iload_n hx hb dX7_passable_30 rfl (lv_at hl 2 rfl) ?_
        exact W.iret (v := v2) hx hb hr (fun t ht hW => ⟨⟨v2, (), rfl, Option.some.inj hf, by rw [ht]; exact hP, hD⟩, hS.F ht⟩) hS.2.2 dX7_passable_31
      · have hf := if_f cc11 hf
        refine lv_iload_n hx hb dX7_passable_14 rfl (lv_at hl 2 rfl) ?_
        refine lv_iconst (v := (1 : Int32)) hx hb dX7_passable_15 (by decide) ?_
        refine lv_iload_n hx hb dX7_passable_16 rfl (lv_at hl 3 rfl) ?_
        refine lv_ishl hx hb dX7_passable_17 ?_
        refine lv_ior hx hb dX7_passable_18 ?_
        refine lv_topi (fun v4 ev4 => ?_)
        have hf := nm_x ev4 hf
        refine lv_istore_n (lv' := [(2, .int v4), (0, .ref (a 0)), (1, .int p1), (3, .int v3)]) hx hb dX7_passable_19 rfl hl (by decide) rfl (fun ls hl => ?_)
        refine lv_aload_n hx hb dX7_passable_20 rfl (lv_at hl 1 rfl) ?_
        refine lv_iload_n hx hb dX7_passable_21 rfl (lv_at hl 2 rfl) ?_
        refine lv_iload_n hx hb dX7_passable_22 rfl (lv_at hl 0 rfl) ?_
        obtain ⟨q5, hq5, hf⟩ := bd_x hf
        have hFc := freeS hD hS hA
        refine va_calli (va_runV (As := [.int p1, .int v4]) (rest := []) ⟨hx, hb, hml, hown, hG⟩ (c_X7_nextTask l D cI cZ a x p1 v4 H.size hq5) (cwV 2 hG (gV g_769 g_770 g_61 g_77 g_771) rfl rfl rfl (by decide +kernel) ⟨Nat.le_of_ble_eq_true rfl, Nat.le_of_ble_eq_true rfl⟩) ⟨pre_blind, va_recv hK hP (ci := 7) (q0 := 0) rfl rfl, fun U hU hW => ⟨rfl, pre_of hP hK hD hnw hU hW⟩⟩ rfl rfl hl.1 rfl (lv_room (Nat.le_of_ble_eq_true rfl)) dX7_passable_23 ⟨Nat.le_of_ble_eq_true rfl, Nat.le_of_ble_eq_true rfl⟩) hS (fun q _ h => hFc q h) hFc (fun v u t H locs ht hvm hw hB hz1 hk1 hS => ?_)
        have hw := hw.symm; subst hw
        obtain ⟨hP1, hD1⟩ := hB
        rw [ht] at hP1
        have hP := hP1
        have hD := hD1.weaken (fun _ q _ h => hFc q.1 h)
        refine lv_istore_n (lv' := [(3, .int q5), (2, .int v4), (0, .ref (a 0)), (1, .int p1)]) hx hb dX7_passable_26 rfl hl (by decide) rfl (fun ls hl => ?_)
        refine lv_goto (tgt := 9) hx hb dX7_passable_27 (by decide) ?_
        exact ih9 v4 q5 _ _ _ hP hD hS (lv_sub hl [2, 3, 1, 0] rfl) hf
  exact L9 FU (0 : Int32) q1 _ _ _ hP hD hS (lv_sub hl [2, 3, 1, 0] rfl) hf
def f_X7_plan_b58 (x : HC) (p1 : Int32) (p2 : Int32) (p3 : Int32) (q4 : Int32) (rc58 : Int32 → Int32 → Option (Int32)) (v5 : Int32) (v6 : Int32) : Option (Int32) := bd (f_X7_worthOf x v5) (fun (q7 : Int32) => (if q4 ≤ q7 then some (-1 : Int32) else bd (f_X7_nextTask x p1 v5) (fun (q8 : Int32) => (if v6 = p2 then (if p3 = 0 then some q8 else bd (f_X7_leastTricks x p1 q8 v5) (fun (q11 : Int32) => some q11)) else nm (v5 ||| ((1 : Int32) <<< (q8 &&& 31))) (fun (v9 : Int32) => nm (v6 + (1 : Int32)) (fun (v10 : Int32) => rc58 v9 v10))))))
def f_X7_plan (x : HC) (p1 : Int32) (p2 : Int32) (p3 : Int32) : Option (Int32) := bd (f_X7_isFighter x p1) (fun (q1 : Int32) => (if q1 = 0 then some (-1000000001 : Int32) else bd (f_X7_in (Int32.toInt64 p3) (0 : Int64) (1 : Int64)) (fun (q2 : Int32) => (if q2 = 0 then some (-1000000002 : Int32) else bd (f_X7_passable x p1) (fun (q3 : Int32) => bd (f_X7_worthOf x q3) (fun (q4 : Int32) => (if (-1 : Int32) < p2 then lp (fun _ _ => none : Int32 → Int32 → Option (Int32)) (f_X7_plan_b58 x p1 p2 p3 q4) FU (0 : Int32) (0 : Int32) else (if p2 = (-1 : Int32) then some q4 else some (-1 : Int32)))))))))
abbrev RM_X7_plan : Room := { frames := 5, cells := 0, slots := 0, locals := 120 }
set_option maxHeartbeats 4000000 in
set_option maxRecDepth 100000 in
theorem c_X7_plan (l : Launch) (D : va_G) (cI cZ : ClassId) (a : Nat → Nat) (x : HC) (p1 : Int32) (p2 : Int32) (p3 : Int32) (sz : Nat) {r : Int32} (hf : f_X7_plan x p1 p2 p3 = some r) : Met l yX7_plan (wM yX7_plan cX7_plan 8 (some .int)) RM_X7_plan (va_Pc [.ref (a 0), .int p1, .int p2, .int p3] (pre D cI cZ (kM cI cZ a x) sz)) (QI0 D (va_A (kM cI cZ a x) sz) (kM cI cZ a x) r) 0 0 (va_A (kM cI cZ a x) sz) := by
  unfold f_X7_plan at hf
  refine Met.ofW (cc := cX7_plan) (maxL := 8) (ret := (some .int)) (by decide) rfl ?_
  intro p e s m args below meth c s₁ B hml hv
  obtain ⟨rfl, hsz, hP, hK, hD0, hnw⟩ := hv
  have hx := B.exec
  have hb := B.bytes
  have hr := B.returns
  have hts := atoms_spec (ws := wM yX7_plan cX7_plan 8 (some .int)) B.pre
  have hG : ∀ w ∈ GW, w.before (([.ref (a 0), .int p1, .int p2, .int p3] : List Value).toArray) s = true := fun w h => hts w (List.mem_cons_of_mem _ h)
  have hown : s.vm.findClass RX7 = some m.cls := findClass_of_methodNamed B.named
  have hlocks := B.notSynchronized
  subst hsz
  have hD := hD0.self (sz := s.heap.size)
  generalize hAe : va_A (kM cI cZ a x) s.heap.size = A at hD ⊢
  have hA : ∀ q : Nat, s.heap.size ≤ q → A q := fun q h => by rw [← hAe]; exact Or.inr h
  have hS : va_S A s.heap s.heap [] := va_S.rf
  have hl := lv_entry ([.ref (a 0), .int p1, .int p2, .int p3]) (n := 8) (Nat.le_of_ble_eq_true rfl)
  rw [lg_entry_eq]
  generalize (lg_sl ([.ref (a 0), .int p1, .int p2, .int p3]) ++ List.replicate (8 - (lg_sl ([.ref (a 0), .int p1, .int p2, .int p3])).length) Slot.unset).toArray = ls at hl ⊢
  have hl : lv_has ls 8 [(0, .ref (a 0)), (1, .int p1), (2, .int p2), (3, .int p3)] := hl
  show W p l e RM_X7_plan s m (([.ref (a 0), .int p1, .int p2, .int p3] : List Value).toArray) below meth c s.heap [] 0 0 (MQ below (QI0 D A (kM cI cZ a x) r) (([.ref (a 0), .int p1, .int p2, .int p3] : List Value).toArray) s 0 0 A) (F0 m 0 ls [])
  refine lv_aload_n hx hb dX7_plan_0 rfl (lv_at hl 0 rfl) ?_
  refine lv_iload_n hx hb dX7_plan_1 rfl (lv_at hl 1 rfl) ?_
  obtain ⟨q1, hq1, hf⟩ := bd_x hf
  have hFc := freeS hD hS hA
  refine va_calli (va_runV (As := [.int p1]) (rest := []) ⟨hx, hb, hml, hown, hG⟩ (c_X7_isFighter l D cI cZ a x p1 s.heap.size hq1) (cwV 1 hG (gV g_673 g_674 g_47 g_77 g_675) rfl rfl rfl (by decide +kernel) ⟨Nat.le_of_ble_eq_true rfl, Nat.le_of_ble_eq_true rfl⟩) ⟨pre_blind, va_recv hK hP (ci := 7) (q0 := 0) rfl rfl, fun U hU hW => ⟨rfl, pre_of hP hK hD hnw hU hW⟩⟩ rfl rfl hl.1 rfl (lv_room (Nat.le_of_ble_eq_true rfl)) dX7_plan_2 ⟨Nat.le_of_ble_eq_true rfl, Nat.le_of_ble_eq_true rfl⟩) hS (fun q _ h => hFc q h) hFc (fun v u t H locs ht hvm hw hB hz1 hk1 hS => ?_)
  have hw := hw.symm; subst hw
  obtain ⟨hP1, hD1⟩ := hB
  rw [ht] at hP1
  have hP := hP1
  have hD := hD1.weaken (fun _ q _ h => hFc q.1 h)
  refine lv_if_ne (tgt := 11) hx hb dX7_plan_5 (by decide) (fun cc5 => ?_) (fun cc5 => ?_)
  · have hf := if_f cc5 hf
    refine lv_iload_n hx hb dX7_plan_11 rfl (lv_at hl 3 rfl) ?_
    refine lv_i2l hx hb dX7_plan_12 rfl ?_
    refine lv_lconst (v := (0 : Int64)) hx hb dX7_plan_13 (by decide) ?_
    refine lv_lconst (v := (1 : Int64)) hx hb dX7_plan_14 (by decide) ?_
    obtain ⟨q2, hq2, hf⟩ := bd_x hf
    have hFc := va_free (wc := []) hD hS hA [] rfl
    refine va_calli (va_runS (As := [.long (Int32.toInt64 p3), .long (0 : Int64), .long (1 : Int64)]) (rest := []) ⟨hx, hb, hml, hown, hG⟩ (c_X7_in l D cI cZ (Int32.toInt64 p3) (0 : Int64) (1 : Int64) H.size hq2) (cwS 3 hG (gS g_602 g_603 g_77 g_604) rfl rfl rfl (by decide +kernel) ⟨Nat.le_of_ble_eq_true rfl, Nat.le_of_ble_eq_true rfl⟩) ⟨pre_blind, fun U hU hW => ⟨rfl, pre_of P_nil hK D_nil hnw hU hW⟩⟩ rfl rfl hl.1 rfl (lv_room (Nat.le_of_ble_eq_true rfl)) dX7_plan_15 ⟨Nat.le_of_ble_eq_true rfl, Nat.le_of_ble_eq_true rfl⟩) hS (fun q _ h => hFc q h) hFc (fun v u t H locs ht hvm hw hB hz1 hk1 hS => ?_)
    have hw := hw.symm; subst hw
    obtain ⟨hP1, hD1⟩ := hB
    rw [ht] at hP1
    obtain ⟨hP, hD⟩ := back hP hD [] rfl rfl hk1 hFc hP1 hD1
    refine lv_if_ne (tgt := 24) hx hb dX7_plan_18 (by decide) (fun cc18 => ?_) (fun cc18 => ?_)
    · have hf := if_f cc18 hf
      refine lv_aload_n hx hb dX7_plan_24 rfl (lv_at hl 0 rfl) ?_
      refine lv_aload_n hx hb dX7_plan_25 rfl (lv_at hl 0 rfl) ?_
      refine lv_iload_n hx hb dX7_plan_26 rfl (lv_at hl 1 rfl) ?_
      obtain ⟨q3, hq3, hf⟩ := bd_x hf
      have hFc := freeS hD hS hA
      refine va_calli (va_runV (As := [.int p1]) (rest := [.ref (a 0)]) ⟨hx, hb, hml, hown, hG⟩ (c_X7_passable l D cI cZ a x p1 H.size hq3) (cwV 1 hG (gV g_766 g_767 g_60 g_77 g_768) rfl rfl rfl (by decide +kernel) ⟨Nat.le_of_ble_eq_true rfl, Nat.le_of_ble_eq_true rfl⟩) ⟨pre_blind, va_recv hK hP (ci := 7) (q0 := 0) rfl rfl, fun U hU hW => ⟨rfl, pre_of hP hK hD hnw hU hW⟩⟩ rfl rfl hl.1 rfl (lv_room (Nat.le_of_ble_eq_true rfl)) dX7_plan_27 ⟨Nat.le_of_ble_eq_true rfl, Nat.le_of_ble_eq_true rfl⟩) hS (fun q _ h => hFc q h) hFc (fun v u t H locs ht hvm hw hB hz1 hk1 hS => ?_)
      have hw := hw.symm; subst hw
      obtain ⟨hP1, hD1⟩ := hB
      rw [ht] at hP1
      have hP := hP1
      have hD := hD1.weaken (fun _ q _ h => hFc q.1 h)
      obtain ⟨q4, hq4, hf⟩ := bd_x hf
      have hFc := freeS hD hS hA
      refine va_calli (va_runV (As := [.int q3]) (rest := []) ⟨hx, hb, hml, hown, hG⟩ (c_X7_worthOf l D cI cZ a x q3 H.size hq4) (cwV 1 hG (gV g_683 g_684 g_50 g_77 g_685) rfl rfl rfl (by decide +kernel) ⟨Nat.le_of_ble_eq_true rfl, Nat.le_of_ble_eq_true rfl⟩) ⟨pre_blind, va_recv hK hP (ci := 7) (q0 := 0) rfl rfl, fun U hU hW => ⟨rfl, pre_of hP hK hD hnw hU hW⟩⟩ rfl rfl hl.1 rfl (lv_room (Nat.le_of_ble_eq_true rfl)) dX7_plan_30 ⟨Nat.le_of_ble_eq_true rfl, Nat.le_of_ble_eq_true rfl⟩) hS (fun q _ h => hFc q h) hFc (fun v u t H locs ht hvm hw hB hz1 hk1 hS => ?_)
      have hw := hw.symm; subst hw
      obtain ⟨hP1, hD1⟩ := hB
      rw [ht] at hP1
      have hP := hP1
      have hD := hD1.weaken (fun _ q _ h => hFc q.1 h)
      refine lv_istore (lv' := [(4, .int q4), (0, .ref (a 0)), (1, .int p1), (2, .int p2), (3, .int p3)]) hx hb dX7_plan_33 hl (by decide) rfl (fun ls hl => ?_)
      refine lv_iload_n hx hb dX7_plan_35 rfl (lv_at hl 3 rfl) ?_
      refine lv_iconst (v := (-1 : Int32)) hx hb dX7_plan_36 (by decide) ?_
      refine lv_icmp_gt (tgt := 52) hx hb dX7_plan_37 (by decide) (fun cc37 => ?_) (fun cc37 => ?_)
      · have hf := if_t cc37 hf
        refine lv_iconst (v := (0 : Int32)) hx hb dX7_plan_52 (by decide) ?_
        refine lv_istore (lv' := [(5, .int (0 : Int32)), (4, .int q4), (0, .ref (a 0)), (1, .int p1), (2, .int p2), (3, .int p3)]) hx hb dX7_plan_53 hl (by decide) rfl (fun ls hl => ?_)
        refine lv_iconst (v := (0 : Int32)) hx hb dX7_plan_55 (by decide) ?_
        refine lv_istore (lv' := [(6, .int (0 : Int32)), (5, .int (0 : Int32)), (4, .int q4), (0, .ref (a 0)), (1, .int p1), (2, .int p2), (3, .int p3)]) hx hb dX7_plan_56 hl (by decide) rfl (fun ls hl => ?_)
        have L58 : ∀ (n : Nat) (v5 : Int32) (v6 : Int32) (H : Heap) (locs : List Loc) (ls : Array Slot), va_P D vwCl (kM cI cZ a x) H → va_D A (kM cI cZ a x) → va_S A s.heap H locs → lv_has ls 8 [(0, .ref (a 0)), (1, .int p1), (2, .int p2), (3, .int p3), (4, .int q4), (5, .int v5), (6, .int v6)] → lp (fun _ _ => none : Int32 → Int32 → Option (Int32)) (f_X7_plan_b58 x p1 p2 p3 q4) n v5 v6 = some r → W p l e RM_X7_plan s m (([.ref (a 0), .int p1, .int p2, .int p3] : List Value).toArray) below meth c H locs 0 0 (MQ below (QI0 D A (kM cI cZ a x) r) (([.ref (a 0), .int p1, .int p2, .int p3] : List Value).toArray) s 0 0 A) (F0 m 58 ls []) := by
          intro n
          induction n with
          | zero => intro v5 v6 H locs ls _ _ _ _ hf; cases (show (none : Option (Int32)) = some r from hf)
          | succ n ih58 =>
            intro v5 v6 H locs ls hP hD hS hl hf
            have hf : (f_X7_plan_b58 x p1 p2 p3 q4) (lp (fun _ _ => none : Int32 → Int32 → Option (Int32)) (f_X7_plan_b58 x p1 p2 p3 q4) n) v5 v6 = some r := hf
            generalize lp (fun _ _ => none : Int32 → Int32 → Option (Int32)) (f_X7_plan_b58 x p1 p2 p3 q4) n = rc58 at ih58 hf
            unfold f_X7_plan_b58 at hf
            refine lv_aload_n hx hb dX7_plan_58 rfl (lv_at hl 0 rfl) ?_
            refine lv_iload hx hb dX7_plan_59 (lv_at hl 5 rfl) ?_
            obtain ⟨q7, hq7, hf⟩ := bd_x hf
            have hFc := freeS hD hS hA
            refine va_calli (va_runV (As := [.int v5]) (rest := []) ⟨hx, hb, hml, hown, hG⟩ (c_X7_worthOf l D cI cZ a x v5 H.size hq7) (cwV 1 hG (gV g_683 g_684 g_50 g_77 g_685) rfl rfl rfl (by decide +kernel) ⟨Nat.le_of_ble_eq_true rfl, Nat.le_of_ble_eq_true rfl⟩) ⟨pre_blind, va_recv hK hP (ci := 7) (q0 := 0) rfl rfl, fun U hU hW => ⟨rfl, pre_of hP hK hD hnw hU hW⟩⟩ rfl rfl hl.1 rfl (lv_room (Nat.le_of_ble_eq_true rfl)) dX7_plan_61 ⟨Nat.le_of_ble_eq_true rfl, Nat.le_of_ble_eq_true rfl⟩) hS (fun q _ h => hFc q h) hFc (fun v u t H locs ht hvm hw hB hz1 hk1 hS => ?_)
            have hw := hw.symm; subst hw
            obtain ⟨hP1, hD1⟩ := hB
            rw [ht] at hP1
            have hP := hP1
            have hD := hD1.weaken (fun _ q _ h => hFc q.1 h)
            refine lv_iload hx hb dX7_plan_64 (lv_at hl 4 rfl) ?_
            refine lv_icmp_ge (tgt := 118) hx hb dX7_plan_66 (by decide) (fun cc66 => ?_) (fun cc66 => ?_)
            · have hf := if_t cc66 hf
              refine lv_iconst (v := (-1 : Int32)) hx hb dX7_plan_118 (by decide) ?_
              exact W.iret (v := (-1 : Int32)) hx hb hr (fun t ht hW => ⟨⟨(-1 : Int32), (), rfl, Option.some.inj hf, by rw [ht]; exact hP, hD⟩, hS.F ht⟩) hS.2.2 dX7_plan_119
            · have hf := if_f cc66 hf
              refine lv_aload_n hx hb dX7_plan_69 rfl (lv_at hl 0 rfl) ?_
              refine lv_iload_n hx hb dX7_plan_70 rfl (lv_at hl 1 rfl) ?_
              refine lv_iload hx hb dX7_plan_71 (lv_at hl 5 rfl) ?_
              obtain ⟨q8, hq8, hf⟩ := bd_x hf
              have hFc := freeS hD hS hA
              refine va_calli (va_runV (As := [.int p1, .int v5]) (rest := []) ⟨hx, hb, hml, hown, hG⟩ (c_X7_nextTask l D cI cZ a x p1 v5 H.size hq8) (cwV 2 hG (gV g_769 g_770 g_61 g_77 g_771) rfl rfl rfl (by decide +kernel) ⟨Nat.le_of_ble_eq_true rfl, Nat.le_of_ble_eq_true rfl⟩) ⟨pre_blind, va_recv hK hP (ci := 7) (q0 := 0) rfl rfl, fun U hU hW => ⟨rfl, pre_of hP hK hD hnw hU hW⟩⟩ rfl rfl hl.1 rfl (lv_room (Nat.le_of_ble_eq_true rfl)) dX7_plan_73 ⟨Nat.le_of_ble_eq_true rfl, Nat.le_of_ble_eq_true rfl⟩) hS (fun q _ h => hFc q h) hFc (fun v u t H locs ht hvm hw hB hz1 hk1 hS => ?_)
              have hw := hw.symm; subst hw
              obtain ⟨hP1, hD1⟩ := hB
              rw [ht] at hP1
              have hP := hP1
              have hD := hD1.weaken (fun _ q _ h => hFc q.1 h)
              refine lv_istore (lv' := [(7, .int q8), (0, .ref (a 0)), (1, .int p1), (2, .int p2), (3, .int p3), (4, .int q4), (5, .int v5), (6, .int v6)]) hx hb dX7_plan_76 hl (by decide) rfl (fun ls hl => ?_)
              refine lv_iload hx hb dX7_plan_78 (lv_at hl 7 rfl) ?_
              refine lv_iload_n hx hb dX7_plan_80 rfl (lv_at hl 3 rfl) ?_
              refine lv_icmp_ne (tgt := 103) hx hb dX7_plan_81 (by decide) (fun cc81 => ?_) (fun cc81 => ?_)
              · have hf := if_f cc81 hf
                refine lv_iload hx hb dX7_plan_103 (lv_at hl 6 rfl) ?_
                refine lv_iconst (v := (1 : Int32)) hx hb dX7_plan_105 (by decide) ?_
                refine lv_iload hx hb dX7_plan_106 (lv_at hl 0 rfl) ?_
                refine lv_ishl hx hb dX7_plan_108 ?_
                refine lv_ior hx hb dX7_plan_109 ?_
                refine lv_topi (fun v9 ev9 => ?_)
                have hf := nm_x ev9 hf
                refine lv_istore (lv' := [(5, .int v9), (7, .int q8), (0, .ref (a 0)), (1, .int p1), (2, .int p2), (3, .int p3), (4, .int q4), (6, .int v6)]) hx hb dX7_plan_110 hl (by decide) rfl (fun ls hl => ?_)
                obtain ⟨v10, ev10⟩ : ∃ y : Int32, y = (v6 + (1 : Int32)) := ⟨_, rfl⟩
                have hf := nm_x ev10 hf
                refine lv_iinc (v := v10) (lv' := [(6, .int v10), (5, .int v9), (7, .int q8), (0, .ref (a 0)), (1, .int p1), (2, .int p2), (3, .int p3), (4, .int q4)]) hx hb dX7_plan_112 hl (k := 7) rfl (by rw [ev10]; rfl) (by decide) rfl (fun ls hl => ?_)
                refine lv_goto (tgt := 58) hx hb dX7_plan_115 (by decide) ?_
                exact ih58 v9 v10 _ _ _ hP hD hS (lv_sub hl [3, 4, 5, 6, 7, 1, 0] rfl) hf
              · have hf := if_t cc81 hf
                refine lv_iload_n hx hb dX7_plan_84 rfl (lv_at hl 4 rfl) ?_
                refine lv_if_ne (tgt := 93) hx hb dX7_plan_85 (by decide) (fun cc85 => ?_) (fun cc85 => ?_)
                · have hf := if_f cc85 hf
                  refine lv_aload_n hx hb dX7_plan_93 rfl (lv_at hl 1 rfl) ?_
                  refine lv_iload_n hx hb dX7_plan_94 rfl (lv_at hl 2 rfl) ?_
                  refine lv_iload hx hb dX7_plan_95 (lv_at hl 0 rfl) ?_
                  refine lv_iload hx hb dX7_plan_97 (lv_at hl 6 rfl) ?_
                  obtain ⟨q11, hq11, hf⟩ := bd_x hf
                  have hFc := freeS hD hS hA
                  refine va_calli (va_runV (As := [.int p1, .int q8, .int v5]) (rest := []) ⟨hx, hb, hml, hown, hG⟩ (c_X7_leastTricks l D cI cZ a x p1 q8 v5 H.size hq11) (cwV 3 hG (gV g_772 g_773 g_62 g_77 g_774) rfl rfl rfl (by decide +kernel) ⟨Nat.le_of_ble_eq_true rfl, Nat.le_of_ble_eq_true rfl⟩) ⟨pre_blind, va_recv hK hP (ci := 7) (q0 := 0) rfl rfl, fun U hU hW => ⟨rfl, pre_of hP hK hD hnw hU hW⟩⟩ rfl rfl hl.1 rfl (lv_room (Nat.le_of_ble_eq_true rfl)) dX7_plan_99 ⟨Nat.le_of_ble_eq_true rfl, Nat.le_of_ble_eq_true rfl⟩) hS (fun q _ h => hFc q h) hFc (fun v u t H locs ht hvm hw hB hz1 hk1 hS => ?_)
                  have hw := hw.symm; subst hw
                  obtain ⟨hP1, hD1⟩ := hB
                  rw [ht] at hP1
                  have hP := hP1
                  have hD := hD1.weaken (fun _ q _ h => hFc q.1 h)
                  exact W.iret (v := q11) hx hb hr (fun t ht hW => ⟨⟨q11, (), rfl, Option.some.inj hf, by rw [ht]; exact hP, hD⟩, hS.F ht⟩) hS.2.2 dX7_plan_102
                · have hf := if_t cc85 hf
                  refine lv_iload hx hb dX7_plan_88 (lv_at hl 0 rfl) ?_
                  refine lv_goto (tgt := 102) hx hb dX7_plan_90 (by decide) ?_
                  exact W.iret (v := q8) hx hb hr (fun t ht hW => ⟨⟨q8, (), rfl, Option.some.inj hf, by rw [ht]; exact hP, hD⟩, hS.F ht⟩) hS.2.2 dX7_plan_102
        exact L58 FU (0 : Int32) (0 : Int32) _ _ _ hP hD hS (lv_sub hl [3, 4, 5, 6, 2, 1, 0] rfl) hf
      · have hf := if_f cc37 hf
        refine lv_iload_n hx hb dX7_plan_40 rfl (lv_at hl 3 rfl) ?_
        refine lv_iconst (v := (-1 : Int32)) hx hb dX7_plan_41 (by decide) ?_
        refine lv_icmp_ne (tgt := 50) hx hb dX7_plan_42 (by decide) (fun cc42 => ?_) (fun cc42 => ?_)
        · have hf := if_f cc42 hf
          refine lv_iconst (v := (-1 : Int32)) hx hb dX7_plan_50 (by decide) ?_
          exact W.iret (v := (-1 : Int32)) hx hb hr (fun t ht hW => ⟨⟨(-1 : Int32), (), rfl, Option.some.inj hf, by rw [ht]; exact hP, hD⟩, hS.F ht⟩) hS.2.2 dX7_plan_51
        · have hf := if_t cc42 hf
          refine lv_iload hx hb dX7_plan_45 (lv_at hl 0 rfl) ?_
          refine lv_goto (tgt := 51) hx hb dX7_plan_47 (by decide) ?_
          exact W.iret (v := q4) hx hb hr (fun t ht hW => ⟨⟨q4, (), rfl, Option.some.inj hf, by rw [ht]; exact hP, hD⟩, hS.F ht⟩) hS.2.2 dX7_plan_51
    · have hf := if_t cc18 hf
      refine lv_ldc hx hb hown (hG _ g_605) dX7_plan_21 ?_
      exact W.iret (v := (-1000000002 : Int32)) hx hb hr (fun t ht hW => ⟨⟨(-1000000002 : Int32), (), rfl, Option.some.inj hf, by rw [ht]; exact hP, hD⟩, hS.F ht⟩) hS.2.2 dX7_plan_23
  · have hf := if_t cc5 hf
    refine lv_ldc hx hb hown (hG _ g_676) dX7_plan_8 ?_
    exact W.iret (v := (-1000000001 : Int32)) hx hb hr (fun t ht hW => ⟨⟨(-1000000001 : Int32), (), rfl, Option.some.inj hf, by rw [ht]; exact hP, hD⟩, hS.F ht⟩) hS.2.2 dX7_plan_10
