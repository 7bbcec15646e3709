def Z0 : HC := fun _ _ => 0
def C0 : CC := fun c => if c = 1 then (sf Z0 5 (-1 : Int32)) else Z0
def ofL (l : List Nat) : Nat → Nat := fun k => l.getD k 0
def ofA (l : List (Nat → Nat)) : Nat → Nat → Nat := fun c => l.getD c (fun _ => 0)
section NEWI
variable {p : Program} {l : Launch} {e : Env} {R : Room} {s : State} {m : MethodId} {args : Array Value} {below : List Frame} {meth : Method} {c : Code} {H : Heap} {locs : List Loc} {cells slots : Nat} {Q : State → Prop}
variable {cc : ByteArray} {pc : Nat} {ls : Array Slot} {rest : List Value} {D : va_G} {A : Nat → Prop} {ws : va_W} {H0 : Heap}
theorem va_newI (hexec : p.tables.exec = Jvm.exec) (hb : c.code = cc) {cI cZ : ClassId} (harr : (Cond.arrayClass .int).before args s = true) (hK : va_K D vwCl (TY cI cZ) s) (hP : va_P D vwCl ws H) (hD : va_D A ws) (hS : va_S A H0 H locs) (hA : ∀ q, H0.size ≤ q → A q)
    {n : Int32} (N' : Nat) (hn : ¬ n < 0) (hN : n.toNatClampNeg = N') (hbytes : N' * componentBytes .int ≤ 536870912) (hcells : cells + 1 ≤ R.cells) (hslots : slots + N' ≤ R.slots) (hdg : decode cc pc = .ok (.newarray .int, 2))
    (kk : ∀ (q : Nat) (H1 : Heap), va_P D vwCl (ws ++ [(q, .inl (cI, N', .inl (fun _ => 0)))]) H1 → va_D A (ws ++ [(q, .inl (cI, N', .inl (fun _ => 0)))]) → va_S A H0 H1 locs →
      W p l e R s m args below meth c H1 locs (cells + 1) (slots + N') Q (F0 m (pc + 2) ls (.ref q :: rest))) : W p l e R s m args below meth c H locs cells slots Q (F0 m pc ls (.int n :: rest)) := by
  refine va_newa (atype := .int) (ty := .int) hexec hb harr rfl hK hP hD hS hA (a0 := (N', .inl (fun _ => 0))) (fun _ => rfl) hn hN hbytes hcells hslots hdg (fun q cA H1 k1 p1 d1 s1 => ?_)
  have e1 : cA = cI := by
    have h1 := (k1.2 2 (cA, .int) rfl).2
    have h2 := (hK.2 0 (cI, .int) rfl).2
    exact Option.some.inj (Eq.trans (Eq.symm h1) h2)
  rw [e1] at p1 d1
  exact kk q H1 p1 d1 s1
theorem va_newZ (hexec : p.tables.exec = Jvm.exec) (hb : c.code = cc) {cI cZ : ClassId} (harr : (Cond.arrayClass .boolean).before args s = true) (hK : va_K D vwCl (TY cI cZ) s) (hP : va_P D vwCl ws H) (hD : va_D A ws) (hS : va_S A H0 H locs) (hA : ∀ q, H0.size ≤ q → A q)
    {n : Int32} (N' : Nat) (hn : ¬ n < 0) (hN : n.toNatClampNeg = N') (hbytes : N' * componentBytes .boolean ≤ 536870912) (hcells : cells + 1 ≤ R.cells) (hslots : slots + N' ≤ R.slots) (hdg : decode cc pc = .ok (.newarray .boolean, 2))
    (kk : ∀ (q : Nat) (H1 : Heap), va_P D vwCl (ws ++ [(q, .inl (cZ, N', .inl (fun _ => 0)))]) H1 → va_D A (ws ++ [(q, .inl (cZ, N', .inl (fun _ => 0)))]) → va_S A H0 H1 locs →
      W p l e R s m args below meth c H1 locs (cells + 1) (slots + N') Q (F0 m (pc + 2) ls (.ref q :: rest))) : W p l e R s m args below meth c H locs cells slots Q (F0 m pc ls (.int n :: rest)) := by
  refine va_newa (atype := .boolean) (ty := .boolean) hexec hb harr rfl hK hP hD hS hA (a0 := (N', .inl (fun _ => 0))) (fun _ => rfl) hn hN hbytes hcells hslots hdg (fun q cA H1 k1 p1 d1 s1 => ?_)
  have e1 : cA = cZ := by
    have h1 := (k1.2 2 (cA, .boolean) rfl).2
    have h2 := (hK.2 1 (cZ, .boolean) rfl).2
    exact Option.some.inj (Eq.trans (Eq.symm h1) h2)
  rw [e1] at p1 d1
  exact kk q H1 p1 d1 s1
end NEWI
theorem lastP {D : va_G} {cl : List vw_C} {ws : va_W} {c : Nat × va_E} {H : Heap} (hP : va_P D cl (ws ++ [c]) H) : va_P D cl [c] H := by
  intro k q h
  cases k with
  | zero => exact hP ws.length q (by simpa using h)
  | succ k => simp at h
theorem lastD {A : Nat → Prop} {ws : va_W} {c : Nat × va_E} (hD : va_D A (ws ++ [c])) : va_D A [c] := by
  refine ⟨fun i j p q hi hj _ => ?_, fun k q h => ?_⟩
  · cases i with
    | zero => cases j with
      | zero => rfl
      | succ j => simp at hj
    | succ i => simp at hi
  · cases k with
    | zero => exact hD.2 ws.length q (by simpa using h)
    | succ k => simp at h
theorem lastF {A0 : Nat → Prop} {ws : va_W} {c : Nat × va_E} {H0 H : Heap} {locs : List Loc} (hD : va_D A0 (ws ++ [c])) (hS : va_S A0 H0 H locs) (hA : ∀ q, H0.size ≤ q → A0 q) : ∀ q, va_A [c] H.size q → A0 q := freeS (lastD hD) hS hA
theorem join1 {A0 : Nat → Prop} {D : va_G} {cl : List vw_C} {ws w1 : va_W} {c : Nat × va_E} {H H1 : Heap} (hP : va_P D cl (ws ++ [c]) H) (hD : va_D A0 (ws ++ [c]))
    (hk : ∀ q : Nat, q < H.size → ¬ va_A [c] H.size q → H1[q]? = H[q]?) (hF : ∀ q, va_A [c] H.size q → A0 q) (hP1 : va_P D cl w1 H1) (hD1 : va_D (va_A [c] H.size) w1) : va_P D cl (ws ++ w1) H1 ∧ va_D A0 (ws ++ w1) := by
  have inws : ∀ (k : Nat) (q : Nat × va_E), ws[k]? = some q → (ws ++ [c])[k]? = some q := fun k q h => by
    rw [List.getElem?_append_left (List.getElem?_eq_some_iff.mp h).1]; exact h
  have apart : ∀ (k : Nat) (q : Nat × va_E), ws[k]? = some q → q.1 < H.size ∧ ¬ va_A [c] H.size q.1 := by
    intro k q h
    have h' := inws k q h
    have hl := (hP k q h').lt
    refine ⟨hl, fun hh => ?_⟩
    rcases hh with ⟨k2, e, h2⟩ | h2
    · cases k2 with
      | zero =>
        have h3 : c = (q.1, e) := by simpa using h2
        have := hD.1 k ws.length q c h' (by simp) (by rw [h3])
        have := (List.getElem?_eq_some_iff.mp h).1
        omega
      | succ k2 => simp at h2
    · omega
  have sp : ∀ (k : Nat) (q : Nat × va_E), (ws ++ w1)[k]? = some q → ws[k]? = some q ∨ (ws.length ≤ k ∧ w1[k - ws.length]? = some q) := fun k q h => by
    by_cases hk : k < ws.length
    · rw [List.getElem?_append_left hk] at h; exact Or.inl h
    · rw [List.getElem?_append_right (by omega)] at h; exact Or.inr ⟨by omega, h⟩
  refine ⟨fun k q h => ?_, ⟨fun i j p q hi hj hpq => ?_, fun k q h => ?_⟩⟩
  · rcases sp k q h with h | ⟨-, h⟩
    · exact (hP k q (inws k q h)).kept (hk q.1 (apart k q h).1 (apart k q h).2)
    · exact hP1 _ q h
  · rcases sp i p hi with h1 | ⟨l1, h1⟩ <;> rcases sp j q hj with h2 | ⟨l2, h2⟩
    · exact hD.1 i j p q (inws i p h1) (inws j q h2) hpq
    · exact absurd (hpq ▸ hD1.2 _ q h2) (apart i p h1).2
    · exact absurd (hpq ▸ hD1.2 _ p h1) (apart j q h2).2
    · have := hD1.1 _ _ p q h1 h2 hpq
      omega
  · rcases sp k q h with h | ⟨-, h⟩
    · exact hD.2 k q (inws k q h)
    · exact hF _ (hD1.2 _ q h)
abbrev RM_X5_init : Room := { frames := 1, cells := 1, slots := 250, locals := 12 }
set_option maxHeartbeats 4000000 in
set_option maxRecDepth 100000 in
theorem c_X5_init (l : Launch) (D : va_G) (cI cZ : ClassId) (h0 sz : Nat) : Met l yX5_init (wM yX5_init cX5_init 1 none) RM_X5_init (va_Pc [.ref h0] (pre D cI cZ [(h0, .inr (5, [.null, .int 0, .int 0, .int 0, .int 0, .int 0]))] sz)) (va_Qv (fun (a : Nat → Nat) => a 0 = h0) (fun a t => post D (va_A ([(h0, .inr (5, [.null, .int 0, .int 0, .int 0, .int 0, .int 0]))] : va_W) sz) (kT cI a (sf Z0 5 (-1 : Int32))) t) (va_A ([(h0, .inr (5, [.null, .int 0, .int 0, .int 0, .int 0, .int 0]))] : va_W) sz)) 1 250 (va_A ([(h0, .inr (5, [.null, .int 0, .int 0, .int 0, .int 0, .int 0]))] : va_W) sz) := by
  refine Met.ofW (cc := cX5_init) (maxL := 1) (ret := none) (by decide) rfl ?_
  intro p e s m args below meth c s₁ B hml hv
  obtain ⟨rfl, hsz, hP, hK, hD0, hnw⟩ := hv
  have hx := B.exec
  have hb := B.bytes
  have hr := B.returns
  have hts := atoms_spec (ws := wM yX5_init cX5_init 1 none) B.pre
  have hG : ∀ w ∈ GW, w.before (([.ref h0] : List Value).toArray) s = true := fun w h => hts w (List.mem_cons_of_mem _ h)
  have hown : s.vm.findClass RX5 = some m.cls := findClass_of_methodNamed B.named
  have hlocks := B.notSynchronized
  have hin : meth.name = "<init>" := (name_of_methodNamed B.named B.method).1
  subst hsz
  have hD := hD0.self (sz := s.heap.size)
  generalize hAe : va_A ([(h0, .inr (5, [.null, .int 0, .int 0, .int 0, .int 0, .int 0]))] : va_W) s.heap.size = A at hD ⊢
  have hA : ∀ q : Nat, s.heap.size ≤ q → A q := fun q h => by rw [← hAe]; exact Or.inr h
  have hS : va_S A s.heap s.heap [] := va_S.rf
  have hl := lv_entry ([.ref h0]) (n := 1) (Nat.le_of_ble_eq_true rfl)
  rw [lg_entry_eq]
  generalize (lg_sl ([.ref h0]) ++ List.replicate (1 - (lg_sl ([.ref h0])).length) Slot.unset).toArray = ls at hl ⊢
  have hl : lv_has ls 1 [(0, .ref h0)] := hl
  refine lv_aload_n hx hb dX5_init_0 rfl (lv_at hl 0 rfl) ?_
  refine W.objInit hx hb hown (hG _ g_92) (hG _ g_85) (hG _ g_86) rfl (by rw [hml]; exact hl.1) rfl dX5_init_1 (Nat.le_of_ble_eq_true rfl) (Nat.le_of_ble_eq_true rfl) ?_
  refine W.eq (g2 := F0 m 4 ls []) rfl ?_
  refine lv_aload_n hx hb dX5_init_4 rfl (lv_at hl 0 rfl) ?_
  refine lv_sipush (v := (250 : Int32)) hx hb dX5_init_5 (by decide) ?_
  refine va_newI hx hb (hG _ g_101) hK hP hD hS hA 250 (by decide) (by decide) (Nat.le_of_ble_eq_true rfl) (Nat.le_of_ble_eq_true rfl) (Nat.le_of_ble_eq_true rfl) dX5_init_8 (fun q1 H hP hD hS => ?_)
  have hP : va_P D vwCl ((h0, .inr (5, [.null, .int 0, .int 0, .int 0, .int 0, .int 0])) :: (([] : va_W) ++ [(q1, .inl (cI, 250, .inl (fun _ => 0)))])) H := hP
  have hD : va_D A ((h0, .inr (5, [.null, .int 0, .int 0, .int 0, .int 0, .int 0])) :: (([] : va_W) ++ [(q1, .inl (cI, 250, .inl (fun _ => 0)))])) := hD
  refine va_putF (D := D) (ci := 5) (v := .ref q1) (ty := (.array .int)) (C := RX5) (T := TX5) (N := 6) (fs := [.null, .int 0, .int 0, .int 0, .int 0, .int 0]) hx hb hG inG5 tyX5 tyX5_ok nmX5 hown hK hP hD hS 0 rfl rfl 0 (by decide) (hG _ g_93) (fun _ h9 => h9) rfl hin rfl (by decide +kernel) rfl rfl (Nat.le_of_ble_eq_true rfl) dX5_init_10 (fun H locs hP hD hS => ?_)
  have hP : va_P D vwCl ((h0, .inr (5, [.ref q1, .int 0, .int 0, .int 0, .int 0, .int 0])) :: (([] : va_W) ++ [(q1, .inl (cI, 250, .inl (fun _ => 0)))])) H := hP
  have hD : va_D A ((h0, .inr (5, [.ref q1, .int 0, .int 0, .int 0, .int 0, .int 0])) :: (([] : va_W) ++ [(q1, .inl (cI, 250, .inl (fun _ => 0)))])) := hD
  refine lv_aload_n hx hb dX5_init_13 rfl (lv_at hl 0 rfl) ?_
  refine lv_iconst (v := (-1 : Int32)) hx hb dX5_init_14 (by decide) ?_
  refine va_put (D := D) (ci := 5) (v := .int (-1 : Int32)) (ty := .int) (C := RX5) (T := TX5) (N := 6) (fs := [.ref q1, .int 0, .int 0, .int 0, .int 0, .int 0]) hx hb hG inG5 tyX5 tyX5_ok nmX5 hown hK hP hD hS 0 rfl rfl 5 (by decide) (hG _ g_99) (fun _ h9 => h9) rfl (by decide +kernel) rfl rfl (Nat.le_of_ble_eq_true rfl) dX5_init_15 (fun H locs hP hD hS => ?_)
  have hP : va_P D vwCl ((h0, .inr (5, [.ref q1, .int 0, .int 0, .int 0, .int 0, .int (-1 : Int32)])) :: (([] : va_W) ++ [(q1, .inl (cI, 250, .inl (fun _ => 0)))])) H := hP
  have hD : va_D A ((h0, .inr (5, [.ref q1, .int 0, .int 0, .int 0, .int 0, .int (-1 : Int32)])) :: (([] : va_W) ++ [(q1, .inl (cI, 250, .inl (fun _ => 0)))])) := hD
  have hP9 := subP (wc := kT cI (ofL [h0, q1]) (sf Z0 5 (-1 : Int32))) [0, 1] rfl hP
  have hD9 := va_D.sub (ws' := kT cI (ofL [h0, q1]) (sf Z0 5 (-1 : Int32))) hD [0, 1] (by decide +kernel) rfl
  exact W.vret hx hb hr (fun t ht hW => ⟨⟨(ofL [h0, q1]), rfl, rfl, by rw [ht]; exact hP9, hD9⟩, hS.F ht⟩) hS.2.2 dX5_init_18
abbrev RM_X2_init : Room := { frames := 1, cells := 12, slots := 87, locals := 12 }
set_option maxHeartbeats 4000000 in
set_option maxRecDepth 100000 in
theorem c_X2_init (l : Launch) (D : va_G) (cI cZ : ClassId) (h0 sz : Nat) : Met l yX2_init (wM yX2_init cX2_init 1 none) RM_X2_init (va_Pc [.ref h0] (pre D cI cZ [(h0, .inr (2, [.int 0, .int 0, .int 0, .int 0, .int 0, .int 0, .null, .null, .null, .null, .null, .null, .null, .null, .null, .null, .null, .null]))] sz)) (va_Qv (fun (a : Nat → Nat) => a 0 = h0) (fun a t => post D (va_A ([(h0, .inr (2, [.int 0, .int 0, .int 0, .int 0, .int 0, .int 0, .null, .null, .null, .null, .null, .null, .null, .null, .null, .null, .null, .null]))] : va_W) sz) (kL cI a Z0) t) (va_A ([(h0, .inr (2, [.int 0, .int 0, .int 0, .int 0, .int 0, .int 0, .null, .null, .null, .null, .null, .null, .null, .null, .null, .null, .null, .null]))] : va_W) sz)) 12 87 (va_A ([(h0, .inr (2, [.int 0, .int 0, .int 0, .int 0, .int 0, .int 0, .null, .null, .null, .null, .null, .null, .null, .null, .null, .null, .null, .null]))] : va_W) sz) := by
  refine Met.ofW (cc := cX2_init) (maxL := 1) (ret := none) (by decide) rfl ?_
  intro p e s m args below meth c s₁ B hml hv
  obtain ⟨rfl, hsz, hP, hK, hD0, hnw⟩ := hv
  have hx := B.exec
  have hb := B.bytes
  have hr := B.returns
  have hts := atoms_spec (ws := wM yX2_init cX2_init 1 none) B.pre
  have hG : ∀ w ∈ GW, w.before (([.ref h0] : List Value).toArray) s = true := fun w h => hts w (List.mem_cons_of_mem _ h)
  have hown : s.vm.findClass RX2 = some m.cls := findClass_of_methodNamed B.named
  have hlocks := B.notSynchronized
  have hin : meth.name = "<init>" := (name_of_methodNamed B.named B.method).1
  subst hsz
  have hD := hD0.self (sz := s.heap.size)
  generalize hAe : va_A ([(h0, .inr (2, [.int 0, .int 0, .int 0, .int 0, .int 0, .int 0, .null, .null, .null, .null, .null, .null, .null, .null, .null, .null, .null, .null]))] : va_W) s.heap.size = A at hD ⊢
  have hA : ∀ q : Nat, s.heap.size ≤ q → A q := fun q h => by rw [← hAe]; exact Or.inr h
  have hS : va_S A s.heap s.heap [] := va_S.rf
  have hl := lv_entry ([.ref h0]) (n := 1) (Nat.le_of_ble_eq_true rfl)
  rw [lg_entry_eq]
  generalize (lg_sl ([.ref h0]) ++ List.replicate (1 - (lg_sl ([.ref h0])).length) Slot.unset).toArray = ls at hl ⊢
  have hl : lv_has ls 1 [(0, .ref h0)] := hl
  refine lv_aload_n hx hb dX2_init_0 rfl (lv_at hl 0 rfl) ?_
  refine W.objInit hx hb hown (hG _ g_107) (hG _ g_85) (hG _ g_86) rfl (by rw [hml]; exact hl.1) rfl dX2_init_1 (Nat.le_of_ble_eq_true rfl) (Nat.le_of_ble_eq_true rfl) ?_
  refine W.eq (g2 := F0 m 4 ls []) rfl ?_
  refine lv_aload_n hx hb dX2_init_4 rfl (lv_at hl 0 rfl) ?_
  refine lv_iconst (v := (5 : Int32)) hx hb dX2_init_5 (by decide) ?_
  refine va_newI hx hb (hG _ g_101) hK hP hD hS hA 5 (by decide) (by decide) (Nat.le_of_ble_eq_true rfl) (Nat.le_of_ble_eq_true rfl) (Nat.le_of_ble_eq_true rfl) dX2_init_6 (fun q1 H hP hD hS => ?_)
  have hP : va_P D vwCl ((h0, .inr (2, [.int 0, .int 0, .int 0, .int 0, .int 0, .int 0, .null, .null, .null, .null, .null, .null, .null, .null, .null, .null, .null, .null])) :: (([] : va_W) ++ [(q1, .inl (cI, 5, .inl (fun _ => 0)))])) H := hP
  have hD : va_D A ((h0, .inr (2, [.int 0, .int 0, .int 0, .int 0, .int 0, .int 0, .null, .null, .null, .null, .null, .null, .null, .null, .null, .null, .null, .null])) :: (([] : va_W) ++ [(q1, .inl (cI, 5, .inl (fun _ => 0)))])) := hD
  refine va_putF (D := D) (ci := 2) (v := .ref q1) (ty := (.array .int)) (C := RX2) (T := TX2) (N := 18) (fs := [.int 0, .int 0, .int 0, .int 0, .int 0, .int 0, .null, .null, .null, .null, .null, .null, .null, .null, .null, .null, .null, .null]) hx hb hG inG2 tyX2 tyX2_ok nmX2 hown hK hP hD hS 0 rfl rfl 6 (by decide) (hG _ g_128) (fun _ h9 => h9) rfl hin rfl (by decide +kernel) rfl rfl (Nat.le_of_ble_eq_true rfl) dX2_init_8 (fun H locs hP hD hS => ?_)
  have hP : va_P D vwCl ((h0, .inr (2, [.int 0, .int 0, .int 0, .int 0, .int 0, .int 0, .ref q1, .null, .null, .null, .null, .null, .null, .null, .null, .null, .null, .null])) :: (([] : va_W) ++ [(q1, .inl (cI, 5, .inl (fun _ => 0)))])) H := hP
  have hD : va_D A ((h0, .inr (2, [.int 0, .int 0, .int 0, .int 0, .int 0, .int 0, .ref q1, .null, .null, .null, .null, .null, .null, .null, .null, .null, .null, .null])) :: (([] : va_W) ++ [(q1, .inl (cI, 5, .inl (fun _ => 0)))])) := hD
  refine lv_aload_n hx hb dX2_init_11 rfl (lv_at hl 0 rfl) ?_
  refine lv_iconst (v := (5 : Int32)) hx hb dX2_init_12 (by decide) ?_
  refine va_newI hx hb (hG _ g_101) hK hP hD hS hA 5 (by decide) (by decide) (Nat.le_of_ble_eq_true rfl) (Nat.le_of_ble_eq_true rfl) (Nat.le_of_ble_eq_true rfl) dX2_init_13 (fun q2 H hP hD hS => ?_)
  have hP : va_P D vwCl ((h0, .inr (2, [.int 0, .int 0, .int 0, .int 0, .int 0, .int 0, .ref q1, .null, .null, .null, .null, .null, .null, .null, .null, .null, .null, .null])) :: (([] : va_W) ++ [(q1, .inl (cI, 5, .inl (fun _ => 0)))] ++ [(q2, .inl (cI, 5, .inl (fun _ => 0)))])) H := hP
  have hD : va_D A ((h0, .inr (2, [.int 0, .int 0, .int 0, .int 0, .int 0, .int 0, .ref q1, .null, .null, .null, .null, .null, .null, .null, .null, .null, .null, .null])) :: (([] : va_W) ++ [(q1, .inl (cI, 5, .inl (fun _ => 0)))] ++ [(q2, .inl (cI, 5, .inl (fun _ => 0)))])) := hD
  refine va_putF (D := D) (ci := 2) (v := .ref q2) (ty := (.array .int)) (C := RX2) (T := TX2) (N := 18) (fs := [.int 0, .int 0, .int 0, .int 0, .int 0, .int 0, .ref q1, .null, .null, .null, .null, .null, .null, .null, .null, .null, .null, .null]) hx hb hG inG2 tyX2 tyX2_ok nmX2 hown hK hP hD hS 0 rfl rfl 7 (by decide) (hG _ g_131) (fun _ h9 => h9) rfl hin rfl (by decide +kernel) rfl rfl (Nat.le_of_ble_eq_true rfl) dX2_init_15 (fun H locs hP hD hS => ?_)
  have hP : va_P D vwCl ((h0, .inr (2, [.int 0, .int 0, .int 0, .int 0, .int 0, .int 0, .ref q1, .ref q2, .null, .null, .null, .null, .null, .null, .null, .null, .null, .null])) :: (([] : va_W) ++ [(q1, .inl (cI, 5, .inl (fun _ => 0)))] ++ [(q2, .inl (cI, 5, .inl (fun _ => 0)))])) H := hP
  have hD : va_D A ((h0, .inr (2, [.int 0, .int 0, .int 0, .int 0, .int 0, .int 0, .ref q1, .ref q2, .null, .null, .null, .null, .null, .null, .null, .null, .null, .null])) :: (([] : va_W) ++ [(q1, .inl (cI, 5, .inl (fun _ => 0)))] ++ [(q2, .inl (cI, 5, .inl (fun _ => 0)))])) := hD
  refine lv_aload_n hx hb dX2_init_18 rfl (lv_at hl 0 rfl) ?_
  refine lv_iconst (v := (5 : Int32)) hx hb dX2_init_19 (by decide) ?_
  refine va_newI hx hb (hG _ g_101) hK hP hD hS hA 5 (by decide) (by decide) (Nat.le_of_ble_eq_true rfl) (Nat.le_of_ble_eq_true rfl) (Nat.le_of_ble_eq_true rfl) dX2_init_20 (fun q3 H hP hD hS => ?_)
  have hP : va_P D vwCl ((h0, .inr (2, [.int 0, .int 0, .int 0, .int 0, .int 0, .int 0, .ref q1, .ref q2, .null, .null, .null, .null, .null, .null, .null, .null, .null, .null])) :: (([] : va_W) ++ [(q1, .inl (cI, 5, .inl (fun _ => 0)))] ++ [(q2, .inl (cI, 5, .inl (fun _ => 0)))] ++ [(q3, .inl (cI, 5, .inl (fun _ => 0)))])) H := hP
  have hD : va_D A ((h0, .inr (2, [.int 0, .int 0, .int 0, .int 0, .int 0, .int 0, .ref q1, .ref q2, .null, .null, .null, .null, .null, .null, .null, .null, .null, .null])) :: (([] : va_W) ++ [(q1, .inl (cI, 5, .inl (fun _ => 0)))] ++ [(q2, .inl (cI, 5, .inl (fun _ => 0)))] ++ [(q3, .inl (cI, 5, .inl (fun _ => 0)))])) := hD
  refine va_putF (D := D) (ci := 2) (v := .ref q3) (ty := (.array .int)) (C := RX2) (T := TX2) (N := 18) (fs := [.int 0, .int 0, .int 0, .int 0, .int 0, .int 0, .ref q1, .ref q2, .null, .null, .null, .null, .null, .null, .null, .null, .null, .null]) hx hb hG inG2 tyX2 tyX2_ok nmX2 hown hK hP hD hS 0 rfl rfl 8 (by decide) (hG _ g_135) (fun _ h9 => h9) rfl hin rfl (by decide +kernel) rfl rfl (Nat.le_of_ble_eq_true rfl) dX2_init_22 (fun H locs hP hD hS => ?_)
  have hP : va_P D vwCl ((h0, .inr (2, [.int 0, .int 0, .int 0, .int 0, .int 0, .int 0, .ref q1, .ref q2, .ref q3, .null, .null, .null, .null, .null, .null, .null, .null, .null])) :: (([] : va_W) ++ [(q1, .inl (cI, 5, .inl (fun _ => 0)))] ++ [(q2, .inl (cI, 5, .inl (fun _ => 0)))] ++ [(q3, .inl (cI, 5, .inl (fun _ => 0)))])) H := hP
  have hD : va_D A ((h0, .inr (2, [.int 0, .int 0, .int 0, .int 0, .int 0, .int 0, .ref q1, .ref q2, .ref q3, .null, .null, .null, .null, .null, .null, .null, .null, .null])) :: (([] : va_W) ++ [(q1, .inl (cI, 5, .inl (fun _ => 0)))] ++ [(q2, .inl (cI, 5, .inl (fun _ => 0)))] ++ [(q3, .inl (cI, 5, .inl (fun _ => 0)))])) := hD
  refine lv_aload_n hx hb dX2_init_25 rfl (lv_at hl 0 rfl) ?_
  refine lv_bipush (v := (6 : Int32)) hx hb dX2_init_26 (by decide) ?_
  refine va_newI hx hb (hG _ g_101) hK hP hD hS hA 6 (by decide) (by decide) (Nat.le_of_ble_eq_true rfl) (Nat.le_of_ble_eq_true rfl) (Nat.le_of_ble_eq_true rfl) dX2_init_28 (fun q4 H hP hD hS => ?_)
  have hP : va_P D vwCl ((h0, .inr (2, [.int 0, .int 0, .int 0, .int 0, .int 0, .int 0, .ref q1, .ref q2, .ref q3, .null, .null, .null, .null, .null, .null, .null, .null, .null])) :: (([] : va_W) ++ [(q1, .inl (cI, 5, .inl (fun _ => 0)))] ++ [(q2, .inl (cI, 5, .inl (fun _ => 0)))] ++ [(q3, .inl (cI, 5, .inl (fun _ => 0)))] ++ [(q4, .inl (cI, 6, .inl (fun _ => 0)))])) H := hP
  have hD : va_D A ((h0, .inr (2, [.int 0, .int 0, .int 0, .int 0, .int 0, .int 0, .ref q1, .ref q2, .ref q3, .null, .null, .null, .null, .null, .null, .null, .null, .null])) :: (([] : va_W) ++ [(q1, .inl (cI, 5, .inl (fun _ => 0)))] ++ [(q2, .inl (cI, 5, .inl (fun _ => 0)))] ++ [(q3, .inl (cI, 5, .inl (fun _ => 0)))] ++ [(q4, .inl (cI, 6, .inl (fun _ => 0)))])) := hD
  refine va_putF (D := D) (ci := 2) (v := .ref q4) (ty := (.array .int)) (C := RX2) (T := TX2) (N := 18) (fs := [.int 0, .int 0, .int 0, .int 0, .int 0, .int 0, .ref q1, .ref q2, .ref q3, .null, .null, .null, .null, .null, .null, .null, .null, .null]) hx hb hG inG2 tyX2 tyX2_ok nmX2 hown hK hP hD hS 0 rfl rfl 9 (by decide) (hG _ g_138) (fun _ h9 => h9) rfl hin rfl (by decide +kernel) rfl rfl (Nat.le_of_ble_eq_true rfl) dX2_init_30 (fun H locs hP hD hS => ?_)
  have hP : va_P D vwCl ((h0, .inr (2, [.int 0, .int 0, .int 0, .int 0, .int 0, .int 0, .ref q1, .ref q2, .ref q3, .ref q4, .null, .null, .null, .null, .null, .null, .null, .null])) :: (([] : va_W) ++ [(q1, .inl (cI, 5, .inl (fun _ => 0)))] ++ [(q2, .inl (cI, 5, .inl (fun _ => 0)))] ++ [(q3, .inl (cI, 5, .inl (fun _ => 0)))] ++ [(q4, .inl (cI, 6, .inl (fun _ => 0)))])) H := hP
  have hD : va_D A ((h0, .inr (2, [.int 0, .int 0, .int 0, .int 0, .int 0, .int 0, .ref q1, .ref q2, .ref q3, .ref q4, .null, .null, .null, .null, .null, .null, .null, .null])) :: (([] : va_W) ++ [(q1, .inl (cI, 5, .inl (fun _ => 0)))] ++ [(q2, .inl (cI, 5, .inl (fun _ => 0)))] ++ [(q3, .inl (cI, 5, .inl (fun _ => 0)))] ++ [(q4, .inl (cI, 6, .inl (fun _ => 0)))])) := hD
  refine lv_aload_n hx hb dX2_init_33 rfl (lv_at hl 0 rfl) ?_
  refine lv_bipush (v := (6 : Int32)) hx hb dX2_init_34 (by decide) ?_
  refine va_newI hx hb (hG _ g_101) hK hP hD hS hA 6 (by decide) (by decide) (Nat.le_of_ble_eq_true rfl) (Nat.le_of_ble_eq_true rfl) (Nat.le_of_ble_eq_true rfl) dX2_init_36 (fun q5 H hP hD hS => ?_)
  have hP : va_P D vwCl ((h0, .inr (2, [.int 0, .int 0, .int 0, .int 0, .int 0, .int 0, .ref q1, .ref q2, .ref q3, .ref q4, .null, .null, .null, .null, .null, .null, .null, .null])) :: (([] : va_W) ++ [(q1, .inl (cI, 5, .inl (fun _ => 0)))] ++ [(q2, .inl (cI, 5, .inl (fun _ => 0)))] ++ [(q3, .inl (cI, 5, .inl (fun _ => 0)))] ++ [(q4, .inl (cI, 6, .inl (fun _ => 0)))] ++ [(q5, .inl (cI, 6, .inl (fun _ => 0)))])) H := hP
  have hD : va_D A ((h0, .inr (2, [.int 0, .int 0, .int 0, .int 0, .int 0, .int 0, .ref q1, .ref q2, .ref q3, .ref q4, .null, .null, .null, .null, .null, .null, .null, .null])) :: (([] : va_W) ++ [(q1, .inl (cI, 5, .inl (fun _ => 0)))] ++ [(q2, .inl (cI, 5, .inl (fun _ => 0)))] ++ [(q3, .inl (cI, 5, .inl (fun _ => 0)))] ++ [(q4, .inl (cI, 6, .inl (fun _ => 0)))] ++ [(q5, .inl (cI, 6, .inl (fun _ => 0)))])) := hD
  refine va_putF (D := D) (ci := 2) (v := .ref q5) (ty := (.array .int)) (C := RX2) (T := TX2) (N := 18) (fs := [.int 0, .int 0, .int 0, .int 0, .int 0, .int 0, .ref q1, .ref q2, .ref q3, .ref q4, .null, .null, .null, .null, .null, .null, .null, .null]) hx hb hG inG2 tyX2 tyX2_ok nmX2 hown hK hP hD hS 0 rfl rfl 10 (by decide) (hG _ g_141) (fun _ h9 => h9) rfl hin rfl (by decide +kernel) rfl rfl (Nat.le_of_ble_eq_true rfl) dX2_init_38 (fun H locs hP hD hS => ?_)
  have hP : va_P D vwCl ((h0, .inr (2, [.int 0, .int 0, .int 0, .int 0, .int 0, .int 0, .ref q1, .ref q2, .ref q3, .ref q4, .ref q5, .null, .null, .null, .null, .null, .null, .null])) :: (([] : va_W) ++ [(q1, .inl (cI, 5, .inl (fun _ => 0)))] ++ [(q2, .inl (cI, 5, .inl (fun _ => 0)))] ++ [(q3, .inl (cI, 5, .inl (fun _ => 0)))] ++ [(q4, .inl (cI, 6, .inl (fun _ => 0)))] ++ [(q5, .inl (cI, 6, .inl (fun _ => 0)))])) H := hP
  have hD : va_D A ((h0, .inr (2, [.int 0, .int 0, .int 0, .int 0, .int 0, .int 0, .ref q1, .ref q2, .ref q3, .ref q4, .ref q5, .null, .null, .null, .null, .null, .null, .null])) :: (([] : va_W) ++ [(q1, .inl (cI, 5, .inl (fun _ => 0)))] ++ [(q2, .inl (cI, 5, .inl (fun _ => 0)))] ++ [(q3, .inl (cI, 5, .inl (fun _ => 0)))] ++ [(q4, .inl (cI, 6, .inl (fun _ => 0)))] ++ [(q5, .inl (cI, 6, .inl (fun _ => 0)))])) := hD
  refine lv_aload_n hx hb dX2_init_41 rfl (lv_at hl 0 rfl) ?_
  refine lv_bipush (v := (6 : Int32)) hx hb dX2_init_42 (by decide) ?_
  refine va_newI hx hb (hG _ g_101) hK hP hD hS hA 6 (by decide) (by decide) (Nat.le_of_ble_eq_true rfl) (Nat.le_of_ble_eq_true rfl) (Nat.le_of_ble_eq_true rfl) dX2_init_44 (fun q6 H hP hD hS => ?_)
  have hP : va_P D vwCl ((h0, .inr (2, [.int 0, .int 0, .int 0, .int 0, .int 0, .int 0, .ref q1, .ref q2, .ref q3, .ref q4, .ref q5, .null, .null, .null, .null, .null, .null, .null])) :: (([] : va_W) ++ [(q1, .inl (cI, 5, .inl (fun _ => 0)))] ++ [(q2, .inl (cI, 5, .inl (fun _ => 0)))] ++ [(q3, .inl (cI, 5, .inl (fun _ => 0)))] ++ [(q4, .inl (cI, 6, .inl (fun _ => 0)))] ++ [(q5, .inl (cI, 6, .inl (fun _ => 0)))] ++ [(q6, .inl (cI, 6, .inl (fun _ => 0)))])) H := hP
  have hD : va_D A ((h0, .inr (2, [.int 0, .int 0, .int 0, .int 0, .int 0, .int 0, .ref q1, .ref q2, .ref q3, .ref q4, .ref q5, .null, .null, .null, .null, .null, .null, .null])) :: (([] : va_W) ++ [(q1, .inl (cI, 5, .inl (fun _ => 0)))] ++ [(q2, .inl (cI, 5, .inl (fun _ => 0)))] ++ [(q3, .inl (cI, 5, .inl (fun _ => 0)))] ++ [(q4, .inl (cI, 6, .inl (fun _ => 0)))] ++ [(q5, .inl (cI, 6, .inl (fun _ => 0)))] ++ [(q6, .inl (cI, 6, .inl (fun _ => 0)))])) := hD
  refine va_putF (D := D) (ci := 2) (v := .ref q6) (ty := (.array .int)) (C := RX2) (T := TX2) (N := 18) (fs := [.int 0, .int 0, .int 0, .int 0, .int 0, .int 0, .ref q1, .ref q2, .ref q3, .ref q4, .ref q5, .null, .null, .null, .null, .null, .null, .null]) hx hb hG inG2 tyX2 tyX2_ok nmX2 hown hK hP hD hS 0 rfl rfl 11 (by decide) (hG _ g_145) (fun _ h9 => h9) rfl hin rfl (by decide +kernel) rfl rfl (Nat.le_of_ble_eq_true rfl) dX2_init_46 (fun H locs hP hD hS => ?_)
  have hP : va_P D vwCl ((h0, .inr (2, [.int 0, .int 0, .int 0, .int 0, .int 0, .int 0, .ref q1, .ref q2, .ref q3, .ref q4, .ref q5, .ref q6, .null, .null, .null, .null, .null, .null])) :: (([] : va_W) ++ [(q1, .inl (cI, 5, .inl (fun _ => 0)))] ++ [(q2, .inl (cI, 5, .inl (fun _ => 0)))] ++ [(q3, .inl (cI, 5, .inl (fun _ => 0)))] ++ [(q4, .inl (cI, 6, .inl (fun _ => 0)))] ++ [(q5, .inl (cI, 6, .inl (fun _ => 0)))] ++ [(q6, .inl (cI, 6, .inl (fun _ => 0)))])) H := hP
  have hD : va_D A ((h0, .inr (2, [.int 0, .int 0, .int 0, .int 0, .int 0, .int 0, .ref q1, .ref q2, .ref q3, .ref q4, .ref q5, .ref q6, .null, .null, .null, .null, .null, .null])) :: (([] : va_W) ++ [(q1, .inl (cI, 5, .inl (fun _ => 0)))] ++ [(q2, .inl (cI, 5, .inl (fun _ => 0)))] ++ [(q3, .inl (cI, 5, .inl (fun _ => 0)))] ++ [(q4, .inl (cI, 6, .inl (fun _ => 0)))] ++ [(q5, .inl (cI, 6, .inl (fun _ => 0)))] ++ [(q6, .inl (cI, 6, .inl (fun _ => 0)))])) := hD
  refine lv_aload_n hx hb dX2_init_49 rfl (lv_at hl 0 rfl) ?_
  refine lv_bipush (v := (6 : Int32)) hx hb dX2_init_50 (by decide) ?_
  refine va_newI hx hb (hG _ g_101) hK hP hD hS hA 6 (by decide) (by decide) (Nat.le_of_ble_eq_true rfl) (Nat.le_of_ble_eq_true rfl) (Nat.le_of_ble_eq_true rfl) dX2_init_52 (fun q7 H hP hD hS => ?_)
  have hP : va_P D vwCl ((h0, .inr (2, [.int 0, .int 0, .int 0, .int 0, .int 0, .int 0, .ref q1, .ref q2, .ref q3, .ref q4, .ref q5, .ref q6, .null, .null, .null, .null, .null, .null])) :: (([] : va_W) ++ [(q1, .inl (cI, 5, .inl (fun _ => 0)))] ++ [(q2, .inl (cI, 5, .inl (fun _ => 0)))] ++ [(q3, .inl (cI, 5, .inl (fun _ => 0)))] ++ [(q4, .inl (cI, 6, .inl (fun _ => 0)))] ++ [(q5, .inl (cI, 6, .inl (fun _ => 0)))] ++ [(q6, .inl (cI, 6, .inl (fun _ => 0)))] ++ [(q7, .inl (cI, 6, .inl (fun _ => 0)))])) H := hP
  have hD : va_D A ((h0, .inr (2, [.int 0, .int 0, .int 0, .int 0, .int 0, .int 0, .ref q1, .ref q2, .ref q3, .ref q4, .ref q5, .ref q6, .null, .null, .null, .null, .null, .null])) :: (([] : va_W) ++ [(q1, .inl (cI, 5, .inl (fun _ => 0)))] ++ [(q2, .inl (cI, 5, .inl (fun _ => 0)))] ++ [(q3, .inl (cI, 5, .inl (fun _ => 0)))] ++ [(q4, .inl (cI, 6, .inl (fun _ => 0)))] ++ [(q5, .inl (cI, 6, .inl (fun _ => 0)))] ++ [(q6, .inl (cI, 6, .inl (fun _ => 0)))] ++ [(q7, .inl (cI, 6, .inl (fun _ => 0)))])) := hD
  refine va_putF (D := D) (ci := 2) (v := .ref q7) (ty := (.array .int)) (C := RX2) (T := TX2) (N := 18) (fs := [.int 0, .int 0, .int 0, .int 0, .int 0, .int 0, .ref q1, .ref q2, .ref q3, .ref q4, .ref q5, .ref q6, .null, .null, .null, .null, .null, .null]) hx hb hG inG2 tyX2 tyX2_ok nmX2 hown hK hP hD hS 0 rfl rfl 12 (by decide) (hG _ g_148) (fun _ h9 => h9) rfl hin rfl (by decide +kernel) rfl rfl (Nat.le_of_ble_eq_true rfl) dX2_init_54 (fun H locs hP hD hS => ?_)
  have hP : va_P D vwCl ((h0, .inr (2, [.int 0, .int 0, .int 0, .int 0, .int 0, .int 0, .ref q1, .ref q2, .ref q3, .ref q4, .ref q5, .ref q6, .ref q7, .null, .null, .null, .null, .null])) :: (([] : va_W) ++ [(q1, .inl (cI, 5, .inl (fun _ => 0)))] ++ [(q2, .inl (cI, 5, .inl (fun _ => 0)))] ++ [(q3, .inl (cI, 5, .inl (fun _ => 0)))] ++ [(q4, .inl (cI, 6, .inl (fun _ => 0)))] ++ [(q5, .inl (cI, 6, .inl (fun _ => 0)))] ++ [(q6, .inl (cI, 6, .inl (fun _ => 0)))] ++ [(q7, .inl (cI, 6, .inl (fun _ => 0)))])) H := hP
  have hD : va_D A ((h0, .inr (2, [.int 0, .int 0, .int 0, .int 0, .int 0, .int 0, .ref q1, .ref q2, .ref q3, .ref q4, .ref q5, .ref q6, .ref q7, .null, .null, .null, .null, .null])) :: (([] : va_W) ++ [(q1, .inl (cI, 5, .inl (fun _ => 0)))] ++ [(q2, .inl (cI, 5, .inl (fun _ => 0)))] ++ [(q3, .inl (cI, 5, .inl (fun _ => 0)))] ++ [(q4, .inl (cI, 6, .inl (fun _ => 0)))] ++ [(q5, .inl (cI, 6, .inl (fun _ => 0)))] ++ [(q6, .inl (cI, 6, .inl (fun _ => 0)))] ++ [(q7, .inl (cI, 6, .inl (fun _ => 0)))])) := hD
  refine lv_aload_n hx hb dX2_init_57 rfl (lv_at hl 0 rfl) ?_
  refine lv_bipush (v := (6 : Int32)) hx hb dX2_init_58 (by decide) ?_
  refine va_newI hx hb (hG _ g_101) hK hP hD hS hA 6 (by decide) (by decide) (Nat.le_of_ble_eq_true rfl) (Nat.le_of_ble_eq_true rfl) (Nat.le_of_ble_eq_true rfl) dX2_init_60 (fun q8 H hP hD hS => ?_)
  have hP : va_P D vwCl ((h0, .inr (2, [.int 0, .int 0, .int 0, .int 0, .int 0, .int 0, .ref q1, .ref q2, .ref q3, .ref q4, .ref q5, .ref q6, .ref q7, .null, .null, .null, .null, .null])) :: (([] : va_W) ++ [(q1, .inl (cI, 5, .inl (fun _ => 0)))] ++ [(q2, .inl (cI, 5, .inl (fun _ => 0)))] ++ [(q3, .inl (cI, 5, .inl (fun _ => 0)))] ++ [(q4, .inl (cI, 6, .inl (fun _ => 0)))] ++ [(q5, .inl (cI, 6, .inl (fun _ => 0)))] ++ [(q6, .inl (cI, 6, .inl (fun _ => 0)))] ++ [(q7, .inl (cI, 6, .inl (fun _ => 0)))] ++ [(q8, .inl (cI, 6, .inl (fun _ => 0)))])) H := hP
  have hD : va_D A ((h0, .inr (2, [.int 0, .int 0, .int 0, .int 0, .int 0, .int 0, .ref q1, .ref q2, .ref q3, .ref q4, .ref q5, .ref q6, .ref q7, .null, .null, .null, .null, .null])) :: (([] : va_W) ++ [(q1, .inl (cI, 5, .inl (fun _ => 0)))] ++ [(q2, .inl (cI, 5, .inl (fun _ => 0)))] ++ [(q3, .inl (cI, 5, .inl (fun _ => 0)))] ++ [(q4, .inl (cI, 6, .inl (fun _ => 0)))] ++ [(q5, .inl (cI, 6, .inl (fun _ => 0)))] ++ [(q6, .inl (cI, 6, .inl (fun _ => 0)))] ++ [(q7, .inl (cI, 6, .inl (fun _ => 0)))] ++ [(q8, .inl (cI, 6, .inl (fun _ => 0)))])) := hD
  refine va_putF (D := D) (ci := 2) (v := .ref q8) (ty := (.array .int)) (C := RX2) (T := TX2) (N := 18) (fs := [.int 0, .int 0, .int 0, .int 0, .int 0, .int 0, .ref q1, .ref q2, .ref q3, .ref q4, .ref q5, .ref q6, .ref q7, .null, .null, .null, .null, .null]) hx hb hG inG2 tyX2 tyX2_ok nmX2 hown hK hP hD hS 0 rfl rfl 13 (by decide) (hG _ g_152) (fun _ h9 => h9) rfl hin rfl (by decide +kernel) rfl rfl (Nat.le_of_ble_eq_true rfl) dX2_init_62 (fun H locs hP hD hS => ?_)
  have hP : va_P D vwCl ((h0, .inr (2, [.int 0, .int 0, .int 0, .int 0, .int 0, .int 0, .ref q1, .ref q2, .ref q3, .ref q4, .ref q5, .ref q6, .ref q7, .ref q8, .null, .null, .null, .null])) :: (([] : va_W) ++ [(q1, .inl (cI, 5, .inl (fun _ => 0)))] ++ [(q2, .inl (cI, 5, .inl (fun _ => 0)))] ++ [(q3, .inl (cI, 5, .inl (fun _ => 0)))] ++ [(q4, .inl (cI, 6, .inl (fun _ => 0)))] ++ [(q5, .inl (cI, 6, .inl (fun _ => 0)))] ++ [(q6, .inl (cI, 6, .inl (fun _ => 0)))] ++ [(q7, .inl (cI, 6, .inl (fun _ => 0)))] ++ [(q8, .inl (cI, 6, .inl (fun _ => 0)))])) H := hP
  have hD : va_D A ((h0, .inr (2, [.int 0, .int 0, .int 0, .int 0, .int 0, .int 0, .ref q1, .ref q2, .ref q3, .ref q4, .ref q5, .ref q6, .ref q7, .ref q8, .null, .null, .null, .null])) :: (([] : va_W) ++ [(q1, .inl (cI, 5, .inl (fun _ => 0)))] ++ [(q2, .inl (cI, 5, .inl (fun _ => 0)))] ++ [(q3, .inl (cI, 5, .inl (fun _ => 0)))] ++ [(q4, .inl (cI, 6, .inl (fun _ => 0)))] ++ [(q5, .inl (cI, 6, .inl (fun _ => 0)))] ++ [(q6, .inl (cI, 6, .inl (fun _ => 0)))] ++ [(q7, .inl (cI, 6, .inl (fun _ => 0)))] ++ [(q8, .inl (cI, 6, .inl (fun _ => 0)))])) := hD
  refine lv_aload_n hx hb dX2_init_65 rfl (lv_at hl 0 rfl) ?_
  refine lv_iconst (v := (4 : Int32)) hx hb dX2_init_66 (by decide) ?_
  refine va_newI hx hb (hG _ g_101) hK hP hD hS hA 4 (by decide) (by decide) (Nat.le_of_ble_eq_true rfl) (Nat.le_of_ble_eq_true rfl) (Nat.le_of_ble_eq_true rfl) dX2_init_67 (fun q9 H hP hD hS => ?_)
  have hP : va_P D vwCl ((h0, .inr (2, [.int 0, .int 0, .int 0, .int 0, .int 0, .int 0, .ref q1, .ref q2, .ref q3, .ref q4, .ref q5, .ref q6, .ref q7, .ref q8, .null, .null, .null, .null])) :: (([] : va_W) ++ [(q1, .inl (cI, 5, .inl (fun _ => 0)))] ++ [(q2, .inl (cI, 5, .inl (fun _ => 0)))] ++ [(q3, .inl (cI, 5, .inl (fun _ => 0)))] ++ [(q4, .inl (cI, 6, .inl (fun _ => 0)))] ++ [(q5, .inl (cI, 6, .inl (fun _ => 0)))] ++ [(q6, .inl (cI, 6, .inl (fun _ => 0)))] ++ [(q7, .inl (cI, 6, .inl (fun _ => 0)))] ++ [(q8, .inl (cI, 6, .inl (fun _ => 0)))] ++ [(q9, .inl (cI, 4, .inl (fun _ => 0)))])) H := hP
  have hD : va_D A ((h0, .inr (2, [.int 0, .int 0, .int 0, .int 0, .int 0, .int 0, .ref q1, .ref q2, .ref q3, .ref q4, .ref q5, .ref q6, .ref q7, .ref q8, .null, .null, .null, .null])) :: (([] : va_W) ++ [(q1, .inl (cI, 5, .inl (fun _ => 0)))] ++ [(q2, .inl (cI, 5, .inl (fun _ => 0)))] ++ [(q3, .inl (cI, 5, .inl (fun _ => 0)))] ++ [(q4, .inl (cI, 6, .inl (fun _ => 0)))] ++ [(q5, .inl (cI, 6, .inl (fun _ => 0)))] ++ [(q6, .inl (cI, 6, .inl (fun _ => 0)))] ++ [(q7, .inl (cI, 6, .inl (fun _ => 0)))] ++ [(q8, .inl (cI, 6, .inl (fun _ => 0)))] ++ [(q9, .inl (cI, 4, .inl (fun _ => 0)))])) := hD
  refine va_putF (D := D) (ci := 2) (v := .ref q9) (ty := (.array .int)) (C := RX2) (T := TX2) (N := 18) (fs := [.int 0, .int 0, .int 0, .int 0, .int 0, .int 0, .ref q1, .ref q2, .ref q3, .ref q4, .ref q5, .ref q6, .ref q7, .ref q8, .null, .null, .null, .null]) hx hb hG inG2 tyX2 tyX2_ok nmX2 hown hK hP hD hS 0 rfl rfl 14 (by decide) (hG _ g_155) (fun _ h9 => h9) rfl hin rfl (by decide +kernel) rfl rfl (Nat.le_of_ble_eq_true rfl) dX2_init_69 (fun H locs hP hD hS => ?_)
  have hP : va_P D vwCl ((h0, .inr (2, [.int 0, .int 0, .int 0, .int 0, .int 0, .int 0, .ref q1, .ref q2, .ref q3, .ref q4, .ref q5, .ref q6, .ref q7, .ref q8, .ref q9, .null, .null, .null])) :: (([] : va_W) ++ [(q1, .inl (cI, 5, .inl (fun _ => 0)))] ++ [(q2, .inl (cI, 5, .inl (fun _ => 0)))] ++ [(q3, .inl (cI, 5, .inl (fun _ => 0)))] ++ [(q4, .inl (cI, 6, .inl (fun _ => 0)))] ++ [(q5, .inl (cI, 6, .inl (fun _ => 0)))] ++ [(q6, .inl (cI, 6, .inl (fun _ => 0)))] ++ [(q7, .inl (cI, 6, .inl (fun _ => 0)))] ++ [(q8, .inl (cI, 6, .inl (fun _ => 0)))] ++ [(q9, .inl (cI, 4, .inl (fun _ => 0)))])) H := hP
  have hD : va_D A ((h0, .inr (2, [.int 0, .int 0, .int 0, .int 0, .int 0, .int 0, .ref q1, .ref q2, .ref q3, .ref q4, .ref q5, .ref q6, .ref q7, .ref q8, .ref q9, .null, .null, .null])) :: (([] : va_W) ++ [(q1, .inl (cI, 5, .inl (fun _ => 0)))] ++ [(q2, .inl (cI, 5, .inl (fun _ => 0)))] ++ [(q3, .inl (cI, 5, .inl (fun _ => 0)))] ++ [(q4, .inl (cI, 6, .inl (fun _ => 0)))] ++ [(q5, .inl (cI, 6, .inl (fun _ => 0)))] ++ [(q6, .inl (cI, 6, .inl (fun _ => 0)))] ++ [(q7, .inl (cI, 6, .inl (fun _ => 0)))] ++ [(q8, .inl (cI, 6, .inl (fun _ => 0)))] ++ [(q9, .inl (cI, 4, .inl (fun _ => 0)))])) := hD
  refine lv_aload_n hx hb dX2_init_72 rfl (lv_at hl 0 rfl) ?_
  refine lv_iconst (v := (4 : Int32)) hx hb dX2_init_73 (by decide) ?_
  refine va_newI hx hb (hG _ g_101) hK hP hD hS hA 4 (by decide) (by decide) (Nat.le_of_ble_eq_true rfl) (Nat.le_of_ble_eq_true rfl) (Nat.le_of_ble_eq_true rfl) dX2_init_74 (fun q10 H hP hD hS => ?_)
  have hP : va_P D vwCl ((h0, .inr (2, [.int 0, .int 0, .int 0, .int 0, .int 0, .int 0, .ref q1, .ref q2, .ref q3, .ref q4, .ref q5, .ref q6, .ref q7, .ref q8, .ref q9, .null, .null, .null])) :: (([] : va_W) ++ [(q1, .inl (cI, 5, .inl (fun _ => 0)))] ++ [(q2, .inl (cI, 5, .inl (fun _ => 0)))] ++ [(q3, .inl (cI, 5, .inl (fun _ => 0)))] ++ [(q4, .inl (cI, 6, .inl (fun _ => 0)))] ++ [(q5, .inl (cI, 6, .inl (fun _ => 0)))] ++ [(q6, .inl (cI, 6, .inl (fun _ => 0)))] ++ [(q7, .inl (cI, 6, .inl (fun _ => 0)))] ++ [(q8, .inl (cI, 6, .inl (fun _ => 0)))] ++ [(q9, .inl (cI, 4, .inl (fun _ => 0)))] ++ [(q10, .inl (cI, 4, .inl (fun _ => 0)))])) H := hP
  have hD : va_D A ((h0, .inr (2, [.int 0, .int 0, .int 0, .int 0, .int 0, .int 0, .ref q1, .ref q2, .ref q3, .ref q4, .ref q5, .ref q6, .ref q7, .ref q8, .ref q9, .null, .null, .null])) :: (([] : va_W) ++ [(q1, .inl (cI, 5, .inl (fun _ => 0)))] ++ [(q2, .inl (cI, 5, .inl (fun _ => 0)))] ++ [(q3, .inl (cI, 5, .inl (fun _ => 0)))] ++ [(q4, .inl (cI, 6, .inl (fun _ => 0)))] ++ [(q5, .inl (cI, 6, .inl (fun _ => 0)))] ++ [(q6, .inl (cI, 6, .inl (fun _ => 0)))] ++ [(q7, .inl (cI, 6, .inl (fun _ => 0)))] ++ [(q8, .inl (cI, 6, .inl (fun _ => 0)))] ++ [(q9, .inl (cI, 4, .inl (fun _ => 0)))] ++ [(q10, .inl (cI, 4, .inl (fun _ => 0)))])) := hD
  refine va_putF (D := D) (ci := 2) (v := .ref q10) (ty := (.array .int)) (C := RX2) (T := TX2) (N := 18) (fs := [.int 0, .int 0, .int 0, .int 0, .int 0, .int 0, .ref q1, .ref q2, .ref q3, .ref q4, .ref q5, .ref q6, .ref q7, .ref q8, .ref q9, .null, .null, .null]) hx hb hG inG2 tyX2 tyX2_ok nmX2 hown hK hP hD hS 0 rfl rfl 15 (by decide) (hG _ g_158) (fun _ h9 => h9) rfl hin rfl (by decide +kernel) rfl rfl (Nat.le_of_ble_eq_true rfl) dX2_init_76 (fun H locs hP hD hS => ?_)
  have hP : va_P D vwCl ((h0, .inr (2, [.int 0, .int 0, .int 0, .int 0, .int 0, .int 0, .ref q1, .ref q2, .ref q3, .ref q4, .ref q5, .ref q6, .ref q7, .ref q8, .ref q9, .ref q10, .null, .null])) :: (([] : va_W) ++ [(q1, .inl (cI, 5, .inl (fun _ => 0)))] ++ [(q2, .inl (cI, 5, .inl (fun _ => 0)))] ++ [(q3, .inl (cI, 5, .inl (fun _ => 0)))] ++ [(q4, .inl (cI, 6, .inl (fun _ => 0)))] ++ [(q5, .inl (cI, 6, .inl (fun _ => 0)))] ++ [(q6, .inl (cI, 6, .inl (fun _ => 0)))] ++ [(q7, .inl (cI, 6, .inl (fun _ => 0)))] ++ [(q8, .inl (cI, 6, .inl (fun _ => 0)))] ++ [(q9, .inl (cI, 4, .inl (fun _ => 0)))] ++ [(q10, .inl (cI, 4, .inl (fun _ => 0)))])) H := hP
  have hD : va_D A ((h0, .inr (2, [.int 0, .int 0, .int 0, .int 0, .int 0, .int 0, .ref q1, .ref q2, .ref q3, .ref q4, .ref q5, .ref q6, .ref q7, .ref q8, .ref q9, .ref q10, .null, .null])) :: (([] : va_W) ++ [(q1, .inl (cI, 5, .inl (fun _ => 0)))] ++ [(q2, .inl (cI, 5, .inl (fun _ => 0)))] ++ [(q3, .inl (cI, 5, .inl (fun _ => 0)))] ++ [(q4, .inl (cI, 6, .inl (fun _ => 0)))] ++ [(q5, .inl (cI, 6, .inl (fun _ => 0)))] ++ [(q6, .inl (cI, 6, .inl (fun _ => 0)))] ++ [(q7, .inl (cI, 6, .inl (fun _ => 0)))] ++ [(q8, .inl (cI, 6, .inl (fun _ => 0)))] ++ [(q9, .inl (cI, 4, .inl (fun _ => 0)))] ++ [(q10, .inl (cI, 4, .inl (fun _ => 0)))])) := hD
  refine lv_aload_n hx hb dX2_init_79 rfl (lv_at hl 0 rfl) ?_
  refine lv_iconst (v := (4 : Int32)) hx hb dX2_init_80 (by decide) ?_
  refine va_newI hx hb (hG _ g_101) hK hP hD hS hA 4 (by decide) (by decide) (Nat.le_of_ble_eq_true rfl) (Nat.le_of_ble_eq_true rfl) (Nat.le_of_ble_eq_true rfl) dX2_init_81 (fun q11 H hP hD hS => ?_)
  have hP : va_P D vwCl ((h0, .inr (2, [.int 0, .int 0, .int 0, .int 0, .int 0, .int 0, .ref q1, .ref q2, .ref q3, .ref q4, .ref q5, .ref q6, .ref q7, .ref q8, .ref q9, .ref q10, .null, .null])) :: (([] : va_W) ++ [(q1, .inl (cI, 5, .inl (fun _ => 0)))] ++ [(q2, .inl (cI, 5, .inl (fun _ => 0)))] ++ [(q3, .inl (cI, 5, .inl (fun _ => 0)))] ++ [(q4, .inl (cI, 6, .inl (fun _ => 0)))] ++ [(q5, .inl (cI, 6, .inl (fun _ => 0)))] ++ [(q6, .inl (cI, 6, .inl (fun _ => 0)))] ++ [(q7, .inl (cI, 6, .inl (fun _ => 0)))] ++ [(q8, .inl (cI, 6, .inl (fun _ => 0)))] ++ [(q9, .inl (cI, 4, .inl (fun _ => 0)))] ++ [(q10, .inl (cI, 4, .inl (fun _ => 0)))] ++ [(q11, .inl (cI, 4, .inl (fun _ => 0)))])) H := hP
  have hD : va_D A ((h0, .inr (2, [.int 0, .int 0, .int 0, .int 0, .int 0, .int 0, .ref q1, .ref q2, .ref q3, .ref q4, .ref q5, .ref q6, .ref q7, .ref q8, .ref q9, .ref q10, .null, .null])) :: (([] : va_W) ++ [(q1, .inl (cI, 5, .inl (fun _ => 0)))] ++ [(q2, .inl (cI, 5, .inl (fun _ => 0)))] ++ [(q3, .inl (cI, 5, .inl (fun _ => 0)))] ++ [(q4, .inl (cI, 6, .inl (fun _ => 0)))] ++ [(q5, .inl (cI, 6, .inl (fun _ => 0)))] ++ [(q6, .inl (cI, 6, .inl (fun _ => 0)))] ++ [(q7, .inl (cI, 6, .inl (fun _ => 0)))] ++ [(q8, .inl (cI, 6, .inl (fun _ => 0)))] ++ [(q9, .inl (cI, 4, .inl (fun _ => 0)))] ++ [(q10, .inl (cI, 4, .inl (fun _ => 0)))] ++ [(q11, .inl (cI, 4, .inl (fun _ => 0)))])) := hD
  refine va_putF (D := D) (ci := 2) (v := .ref q11) (ty := (.array .int)) (C := RX2) (T := TX2) (N := 18) (fs := [.int 0, .int 0, .int 0, .int 0, .int 0, .int 0, .ref q1, .ref q2, .ref q3, .ref q4, .ref q5, .ref q6, .ref q7, .ref q8, .ref q9, .ref q10, .null, .null]) hx hb hG inG2 tyX2 tyX2_ok nmX2 hown hK hP hD hS 0 rfl rfl 16 (by decide) (hG _ g_161) (fun _ h9 => h9) rfl hin rfl (by decide +kernel) rfl rfl (Nat.le_of_ble_eq_true rfl) dX2_init_83 (fun H locs hP hD hS => ?_)
  have hP : va_P D vwCl ((h0, .inr (2, [.int 0, .int 0, .int 0, .int 0, .int 0, .int 0, .ref q1, .ref q2, .ref q3, .ref q4, .ref q5, .ref q6, .ref q7, .ref q8, .ref q9, .ref q10, .ref q11, .null])) :: (([] : va_W) ++ [(q1, .inl (cI, 5, .inl (fun _ => 0)))] ++ [(q2, .inl (cI, 5, .inl (fun _ => 0)))] ++ [(q3, .inl (cI, 5, .inl (fun _ => 0)))] ++ [(q4, .inl (cI, 6, .inl (fun _ => 0)))] ++ [(q5, .inl (cI, 6, .inl (fun _ => 0)))] ++ [(q6, .inl (cI, 6, .inl (fun _ => 0)))] ++ [(q7, .inl (cI, 6, .inl (fun _ => 0)))] ++ [(q8, .inl (cI, 6, .inl (fun _ => 0)))] ++ [(q9, .inl (cI, 4, .inl (fun _ => 0)))] ++ [(q10, .inl (cI, 4, .inl (fun _ => 0)))] ++ [(q11, .inl (cI, 4, .inl (fun _ => 0)))])) H := hP
  have hD : va_D A ((h0, .inr (2, [.int 0, .int 0, .int 0, .int 0, .int 0, .int 0, .ref q1, .ref q2, .ref q3, .ref q4, .ref q5, .ref q6, .ref q7, .ref q8, .ref q9, .ref q10, .ref q11, .null])) :: (([] : va_W) ++ [(q1, .inl (cI, 5, .inl (fun _ => 0)))] ++ [(q2, .inl (cI, 5, .inl (fun _ => 0)))] ++ [(q3, .inl (cI, 5, .inl (fun _ => 0)))] ++ [(q4, .inl (cI, 6, .inl (fun _ => 0)))] ++ [(q5, .inl (cI, 6, .inl (fun _ => 0)))] ++ [(q6, .inl (cI, 6, .inl (fun _ => 0)))] ++ [(q7, .inl (cI, 6, .inl (fun _ => 0)))] ++ [(q8, .inl (cI, 6, .inl (fun _ => 0)))] ++ [(q9, .inl (cI, 4, .inl (fun _ => 0)))] ++ [(q10, .inl (cI, 4, .inl (fun _ => 0)))] ++ [(q11, .inl (cI, 4, .inl (fun _ => 0)))])) := hD
  refine lv_aload_n hx hb dX2_init_86 rfl (lv_at hl 0 rfl) ?_
  refine lv_bipush (v := (30 : Int32)) hx hb dX2_init_87 (by decide) ?_
  refine va_newI hx hb (hG _ g_101) hK hP hD hS hA 30 (by decide) (by decide) (Nat.le_of_ble_eq_true rfl) (Nat.le_of_ble_eq_true rfl) (Nat.le_of_ble_eq_true rfl) dX2_init_89 (fun q12 H hP hD hS => ?_)
  have hP : va_P D vwCl ((h0, .inr (2, [.int 0, .int 0, .int 0, .int 0, .int 0, .int 0, .ref q1, .ref q2, .ref q3, .ref q4, .ref q5, .ref q6, .ref q7, .ref q8, .ref q9, .ref q10, .ref q11, .null])) :: (([] : va_W) ++ [(q1, .inl (cI, 5, .inl (fun _ => 0)))] ++ [(q2, .inl (cI, 5, .inl (fun _ => 0)))] ++ [(q3, .inl (cI, 5, .inl (fun _ => 0)))] ++ [(q4, .inl (cI, 6, .inl (fun _ => 0)))] ++ [(q5, .inl (cI, 6, .inl (fun _ => 0)))] ++ [(q6, .inl (cI, 6, .inl (fun _ => 0)))] ++ [(q7, .inl (cI, 6, .inl (fun _ => 0)))] ++ [(q8, .inl (cI, 6, .inl (fun _ => 0)))] ++ [(q9, .inl (cI, 4, .inl (fun _ => 0)))] ++ [(q10, .inl (cI, 4, .inl (fun _ => 0)))] ++ [(q11, .inl (cI, 4, .inl (fun _ => 0)))] ++ [(q12, .inl (cI, 30, .inl (fun _ => 0)))])) H := hP
  have hD : va_D A ((h0, .inr (2, [.int 0, .int 0, .int 0, .int 0, .int 0, .int 0, .ref q1, .ref q2, .ref q3, .ref q4, .ref q5, .ref q6, .ref q7, .ref q8, .ref q9, .ref q10, .ref q11, .null])) :: (([] : va_W) ++ [(q1, .inl (cI, 5, .inl (fun _ => 0)))] ++ [(q2, .inl (cI, 5, .inl (fun _ => 0)))] ++ [(q3, .inl (cI, 5, .inl (fun _ => 0)))] ++ [(q4, .inl (cI, 6, .inl (fun _ => 0)))] ++ [(q5, .inl (cI, 6, .inl (fun _ => 0)))] ++ [(q6, .inl (cI, 6, .inl (fun _ => 0)))] ++ [(q7, .inl (cI, 6, .inl (fun _ => 0)))] ++ [(q8, .inl (cI, 6, .inl (fun _ => 0)))] ++ [(q9, .inl (cI, 4, .inl (fun _ => 0)))] ++ [(q10, .inl (cI, 4, .inl (fun _ => 0)))] ++ [(q11, .inl (cI, 4, .inl (fun _ => 0)))] ++ [(q12, .inl (cI, 30, .inl (fun _ => 0)))])) := hD
  refine va_putF (D := D) (ci := 2) (v := .ref q12) (ty := (.array .int)) (C := RX2) (T := TX2) (N := 18) (fs := [.int 0, .int 0, .int 0, .int 0, .int 0, .int 0, .ref q1, .ref q2, .ref q3, .ref q4, .ref q5, .ref q6, .ref q7, .ref q8, .ref q9, .ref q10, .ref q11, .null]) hx hb hG inG2 tyX2 tyX2_ok nmX2 hown hK hP hD hS 0 rfl rfl 17 (by decide) (hG _ g_164) (fun _ h9 => h9) rfl hin rfl (by decide +kernel) rfl rfl (Nat.le_of_ble_eq_true rfl) dX2_init_91 (fun H locs hP hD hS => ?_)
  have hP : va_P D vwCl ((h0, .inr (2, [.int 0, .int 0, .int 0, .int 0, .int 0, .int 0, .ref q1, .ref q2, .ref q3, .ref q4, .ref q5, .ref q6, .ref q7, .ref q8, .ref q9, .ref q10, .ref q11, .ref q12])) :: (([] : va_W) ++ [(q1, .inl (cI, 5, .inl (fun _ => 0)))] ++ [(q2, .inl (cI, 5, .inl (fun _ => 0)))] ++ [(q3, .inl (cI, 5, .inl (fun _ => 0)))] ++ [(q4, .inl (cI, 6, .inl (fun _ => 0)))] ++ [(q5, .inl (cI, 6, .inl (fun _ => 0)))] ++ [(q6, .inl (cI, 6, .inl (fun _ => 0)))] ++ [(q7, .inl (cI, 6, .inl (fun _ => 0)))] ++ [(q8, .inl (cI, 6, .inl (fun _ => 0)))] ++ [(q9, .inl (cI, 4, .inl (fun _ => 0)))] ++ [(q10, .inl (cI, 4, .inl (fun _ => 0)))] ++ [(q11, .inl (cI, 4, .inl (fun _ => 0)))] ++ [(q12, .inl (cI, 30, .inl (fun _ => 0)))])) H := hP
  have hD : va_D A ((h0, .inr (2, [.int 0, .int 0, .int 0, .int 0, .int 0, .int 0, .ref q1, .ref q2, .ref q3, .ref q4, .ref q5, .ref q6, .ref q7, .ref q8, .ref q9, .ref q10, .ref q11, .ref q12])) :: (([] : va_W) ++ [(q1, .inl (cI, 5, .inl (fun _ => 0)))] ++ [(q2, .inl (cI, 5, .inl (fun _ => 0)))] ++ [(q3, .inl (cI, 5, .inl (fun _ => 0)))] ++ [(q4, .inl (cI, 6, .inl (fun _ => 0)))] ++ [(q5, .inl (cI, 6, .inl (fun _ => 0)))] ++ [(q6, .inl (cI, 6, .inl (fun _ => 0)))] ++ [(q7, .inl (cI, 6, .inl (fun _ => 0)))] ++ [(q8, .inl (cI, 6, .inl (fun _ => 0)))] ++ [(q9, .inl (cI, 4, .inl (fun _ => 0)))] ++ [(q10, .inl (cI, 4, .inl (fun _ => 0)))] ++ [(q11, .inl (cI, 4, .inl (fun _ => 0)))] ++ [(q12, .inl (cI, 30, .inl (fun _ => 0)))])) := hD
  have hP9 := subP (wc := kL cI (ofL [h0, q1, q2, q3, q4, q5, q6, q7, q8, q9, q10, q11, q12]) Z0) [0, 1, 2, 3, 4, 5, 6, 7, 8, 9, 10, 11, 12] rfl hP
  have hD9 := va_D.sub (ws' := kL cI (ofL [h0, q1, q2, q3, q4, q5, q6, q7, q8, q9, q10, q11, q12]) Z0) hD [0, 1, 2, 3, 4, 5, 6, 7, 8, 9, 10, 11, 12] (by decide +kernel) rfl
  exact W.vret hx hb hr (fun t ht hW => ⟨⟨(ofL [h0, q1, q2, q3, q4, q5, q6, q7, q8, q9, q10, q11, q12]), rfl, rfl, by rw [ht]; exact hP9, hD9⟩, hS.F ht⟩) hS.2.2 dX2_init_94
abbrev RM_X4_init : Room := { frames := 1, cells := 4, slots := 45, locals := 12 }
set_option maxHeartbeats 4000000 in
set_option maxRecDepth 100000 in
theorem c_X4_init (l : Launch) (D : va_G) (cI cZ : ClassId) (h0 sz : Nat) : Met l yX4_init (wM yX4_init cX4_init 1 none) RM_X4_init (va_Pc [.ref h0] (pre D cI cZ [(h0, .inr (4, [.null, .null, .null, .null, .int 0, .int 0, .int 0]))] sz)) (va_Qv (fun (a : Nat → Nat) => a 0 = h0) (fun a t => post D (va_A ([(h0, .inr (4, [.null, .null, .null, .null, .int 0, .int 0, .int 0]))] : va_W) sz) (kS cI a Z0) t) (va_A ([(h0, .inr (4, [.null, .null, .null, .null, .int 0, .int 0, .int 0]))] : va_W) sz)) 4 45 (va_A ([(h0, .inr (4, [.null, .null, .null, .null, .int 0, .int 0, .int 0]))] : va_W) sz) := by
  refine Met.ofW (cc := cX4_init) (maxL := 1) (ret := none) (by decide) rfl ?_
  intro p e s m args below meth c s₁ B hml hv
  obtain ⟨rfl, hsz, hP, hK, hD0, hnw⟩ := hv
  have hx := B.exec
  have hb := B.bytes
  have hr := B.returns
  have hts := atoms_spec (ws := wM yX4_init cX4_init 1 none) B.pre
  have hG : ∀ w ∈ GW, w.before (([.ref h0] : List Value).toArray) s = true := fun w h => hts w (List.mem_cons_of_mem _ h)
  have hown : s.vm.findClass RX4 = some m.cls := findClass_of_methodNamed B.named
  have hlocks := B.notSynchronized
  have hin : meth.name = "<init>" := (name_of_methodNamed B.named B.method).1
  subst hsz
  have hD := hD0.self (sz := s.heap.size)
  generalize hAe : va_A ([(h0, .inr (4, [.null, .null, .null, .null, .int 0, .int 0, .int 0]))] : va_W) s.heap.size = A at hD ⊢
  have hA : ∀ q : Nat, s.heap.size ≤ q → A q := fun q h => by rw [← hAe]; exact Or.inr h
  have hS : va_S A s.heap s.heap [] := va_S.rf
  have hl := lv_entry ([.ref h0]) (n := 1) (Nat.le_of_ble_eq_true rfl)
  rw [lg_entry_eq]
  generalize (lg_sl ([.ref h0]) ++ List.replicate (1 - (lg_sl ([.ref h0])).length) Slot.unset).toArray = ls at hl ⊢
  have hl : lv_has ls 1 [(0, .ref h0)] := hl
  refine lv_aload_n hx hb dX4_init_0 rfl (lv_at hl 0 rfl) ?_
  refine W.objInit hx hb hown (hG _ g_172) (hG _ g_85) (hG _ g_86) rfl (by rw [hml]; exact hl.1) rfl dX4_init_1 (Nat.le_of_ble_eq_true rfl) (Nat.le_of_ble_eq_true rfl) ?_
  refine W.eq (g2 := F0 m 4 ls []) rfl ?_
  refine lv_aload_n hx hb dX4_init_4 rfl (lv_at hl 0 rfl) ?_
  refine lv_iconst (v := (5 : Int32)) hx hb dX4_init_5 (by decide) ?_
  refine va_newI hx hb (hG _ g_101) hK hP hD hS hA 5 (by decide) (by decide) (Nat.le_of_ble_eq_true rfl) (Nat.le_of_ble_eq_true rfl) (Nat.le_of_ble_eq_true rfl) dX4_init_6 (fun q1 H hP hD hS => ?_)
  have hP : va_P D vwCl ((h0, .inr (4, [.null, .null, .null, .null, .int 0, .int 0, .int 0])) :: (([] : va_W) ++ [(q1, .inl (cI, 5, .inl (fun _ => 0)))])) H := hP
  have hD : va_D A ((h0, .inr (4, [.null, .null, .null, .null, .int 0, .int 0, .int 0])) :: (([] : va_W) ++ [(q1, .inl (cI, 5, .inl (fun _ => 0)))])) := hD
  refine va_putF (D := D) (ci := 4) (v := .ref q1) (ty := (.array .int)) (C := RX4) (T := TX4) (N := 7) (fs := [.null, .null, .null, .null, .int 0, .int 0, .int 0]) hx hb hG inG4 tyX4 tyX4_ok nmX4 hown hK hP hD hS 0 rfl rfl 0 (by decide) (hG _ g_173) (fun _ h9 => h9) rfl hin rfl (by decide +kernel) rfl rfl (Nat.le_of_ble_eq_true rfl) dX4_init_8 (fun H locs hP hD hS => ?_)
  have hP : va_P D vwCl ((h0, .inr (4, [.ref q1, .null, .null, .null, .int 0, .int 0, .int 0])) :: (([] : va_W) ++ [(q1, .inl (cI, 5, .inl (fun _ => 0)))])) H := hP
  have hD : va_D A ((h0, .inr (4, [.ref q1, .null, .null, .null, .int 0, .int 0, .int 0])) :: (([] : va_W) ++ [(q1, .inl (cI, 5, .inl (fun _ => 0)))])) := hD
  refine lv_aload_n hx hb dX4_init_11 rfl (lv_at hl 0 rfl) ?_
  refine lv_iconst (v := (5 : Int32)) hx hb dX4_init_12 (by decide) ?_
  refine va_newI hx hb (hG _ g_101) hK hP hD hS hA 5 (by decide) (by decide) (Nat.le_of_ble_eq_true rfl) (Nat.le_of_ble_eq_true rfl) (Nat.le_of_ble_eq_true rfl) dX4_init_13 (fun q2 H hP hD hS => ?_)
  have hP : va_P D vwCl ((h0, .inr (4, [.ref q1, .null, .null, .null, .int 0, .int 0, .int 0])) :: (([] : va_W) ++ [(q1, .inl (cI, 5, .inl (fun _ => 0)))] ++ [(q2, .inl (cI, 5, .inl (fun _ => 0)))])) H := hP
  have hD : va_D A ((h0, .inr (4, [.ref q1, .null, .null, .null, .int 0, .int 0, .int 0])) :: (([] : va_W) ++ [(q1, .inl (cI, 5, .inl (fun _ => 0)))] ++ [(q2, .inl (cI, 5, .inl (fun _ => 0)))])) := hD
  refine va_putF (D := D) (ci := 4) (v := .ref q2) (ty := (.array .int)) (C := RX4) (T := TX4) (N := 7) (fs := [.ref q1, .null, .null, .null, .int 0, .int 0, .int 0]) hx hb hG inG4 tyX4 tyX4_ok nmX4 hown hK hP hD hS 0 rfl rfl 1 (by decide) (hG _ g_176) (fun _ h9 => h9) rfl hin rfl (by decide +kernel) rfl rfl (Nat.le_of_ble_eq_true rfl) dX4_init_15 (fun H locs hP hD hS => ?_)
  have hP : va_P D vwCl ((h0, .inr (4, [.ref q1, .ref q2, .null, .null, .int 0, .int 0, .int 0])) :: (([] : va_W) ++ [(q1, .inl (cI, 5, .inl (fun _ => 0)))] ++ [(q2, .inl (cI, 5, .inl (fun _ => 0)))])) H := hP
  have hD : va_D A ((h0, .inr (4, [.ref q1, .ref q2, .null, .null, .int 0, .int 0, .int 0])) :: (([] : va_W) ++ [(q1, .inl (cI, 5, .inl (fun _ => 0)))] ++ [(q2, .inl (cI, 5, .inl (fun _ => 0)))])) := hD
  refine lv_aload_n hx hb dX4_init_18 rfl (lv_at hl 0 rfl) ?_
  refine lv_iconst (v := (5 : Int32)) hx hb dX4_init_19 (by decide) ?_
  refine va_newI hx hb (hG _ g_101) hK hP hD hS hA 5 (by decide) (by decide) (Nat.le_of_ble_eq_true rfl) (Nat.le_of_ble_eq_true rfl) (Nat.le_of_ble_eq_true rfl) dX4_init_20 (fun q3 H hP hD hS => ?_)
  have hP : va_P D vwCl ((h0, .inr (4, [.ref q1, .ref q2, .null, .null, .int 0, .int 0, .int 0])) :: (([] : va_W) ++ [(q1, .inl (cI, 5, .inl (fun _ => 0)))] ++ [(q2, .inl (cI, 5, .inl (fun _ => 0)))] ++ [(q3, .inl (cI, 5, .inl (fun _ => 0)))])) H := hP
  have hD : va_D A ((h0, .inr (4, [.ref q1, .ref q2, .null, .null, .int 0, .int 0, .int 0])) :: (([] : va_W) ++ [(q1, .inl (cI, 5, .inl (fun _ => 0)))] ++ [(q2, .inl (cI, 5, .inl (fun _ => 0)))] ++ [(q3, .inl (cI, 5, .inl (fun _ => 0)))])) := hD
  refine va_putF (D := D) (ci := 4) (v := .ref q3) (ty := (.array .int)) (C := RX4) (T := TX4) (N := 7) (fs := [.ref q1, .ref q2, .null, .null, .int 0, .int 0, .int 0]) hx hb hG inG4 tyX4 tyX4_ok nmX4 hown hK hP hD hS 0 rfl rfl 2 (by decide) (hG _ g_179) (fun _ h9 => h9) rfl hin rfl (by decide +kernel) rfl rfl (Nat.le_of_ble_eq_true rfl) dX4_init_22 (fun H locs hP hD hS => ?_)
  have hP : va_P D vwCl ((h0, .inr (4, [.ref q1, .ref q2, .ref q3, .null, .int 0, .int 0, .int 0])) :: (([] : va_W) ++ [(q1, .inl (cI, 5, .inl (fun _ => 0)))] ++ [(q2, .inl (cI, 5, .inl (fun _ => 0)))] ++ [(q3, .inl (cI, 5, .inl (fun _ => 0)))])) H := hP
  have hD : va_D A ((h0, .inr (4, [.ref q1, .ref q2, .ref q3, .null, .int 0, .int 0, .int 0])) :: (([] : va_W) ++ [(q1, .inl (cI, 5, .inl (fun _ => 0)))] ++ [(q2, .inl (cI, 5, .inl (fun _ => 0)))] ++ [(q3, .inl (cI, 5, .inl (fun _ => 0)))])) := hD
  refine lv_aload_n hx hb dX4_init_25 rfl (lv_at hl 0 rfl) ?_
  refine lv_bipush (v := (30 : Int32)) hx hb dX4_init_26 (by decide) ?_
  refine va_newI hx hb (hG _ g_101) hK hP hD hS hA 30 (by decide) (by decide) (Nat.le_of_ble_eq_true rfl) (Nat.le_of_ble_eq_true rfl) (Nat.le_of_ble_eq_true rfl) dX4_init_28 (fun q4 H hP hD hS => ?_)
  have hP : va_P D vwCl ((h0, .inr (4, [.ref q1, .ref q2, .ref q3, .null, .int 0, .int 0, .int 0])) :: (([] : va_W) ++ [(q1, .inl (cI, 5, .inl (fun _ => 0)))] ++ [(q2, .inl (cI, 5, .inl (fun _ => 0)))] ++ [(q3, .inl (cI, 5, .inl (fun _ => 0)))] ++ [(q4, .inl (cI, 30, .inl (fun _ => 0)))])) H := hP
  have hD : va_D A ((h0, .inr (4, [.ref q1, .ref q2, .ref q3, .null, .int 0, .int 0, .int 0])) :: (([] : va_W) ++ [(q1, .inl (cI, 5, .inl (fun _ => 0)))] ++ [(q2, .inl (cI, 5, .inl (fun _ => 0)))] ++ [(q3, .inl (cI, 5, .inl (fun _ => 0)))] ++ [(q4, .inl (cI, 30, .inl (fun _ => 0)))])) := hD
  refine va_putF (D := D) (ci := 4) (v := .ref q4) (ty := (.array .int)) (C := RX4) (T := TX4) (N := 7) (fs := [.ref q1, .ref q2, .ref q3, .null, .int 0, .int 0, .int 0]) hx hb hG inG4 tyX4 tyX4_ok nmX4 hown hK hP hD hS 0 rfl rfl 3 (by decide) (hG _ g_182) (fun _ h9 => h9) rfl hin rfl (by decide +kernel) rfl rfl (Nat.le_of_ble_eq_true rfl) dX4_init_30 (fun H locs hP hD hS => ?_)
  have hP : va_P D vwCl ((h0, .inr (4, [.ref q1, .ref q2, .ref q3, .ref q4, .int 0, .int 0, .int 0])) :: (([] : va_W) ++ [(q1, .inl (cI, 5, .inl (fun _ => 0)))] ++ [(q2, .inl (cI, 5, .inl (fun _ => 0)))] ++ [(q3, .inl (cI, 5, .inl (fun _ => 0)))] ++ [(q4, .inl (cI, 30, .inl (fun _ => 0)))])) H := hP
  have hD : va_D A ((h0, .inr (4, [.ref q1, .ref q2, .ref q3, .ref q4, .int 0, .int 0, .int 0])) :: (([] : va_W) ++ [(q1, .inl (cI, 5, .inl (fun _ => 0)))] ++ [(q2, .inl (cI, 5, .inl (fun _ => 0)))] ++ [(q3, .inl (cI, 5, .inl (fun _ => 0)))] ++ [(q4, .inl (cI, 30, .inl (fun _ => 0)))])) := hD
  have hP9 := subP (wc := kS cI (ofL [h0, q1, q2, q3, q4]) Z0) [0, 1, 2, 3, 4] rfl hP
  have hD9 := va_D.sub (ws' := kS cI (ofL [h0, q1, q2, q3, q4]) Z0) hD [0, 1, 2, 3, 4] (by decide +kernel) rfl
  exact W.vret hx hb hr (fun t ht hW => ⟨⟨(ofL [h0, q1, q2, q3, q4]), rfl, rfl, by rw [ht]; exact hP9, hD9⟩, hS.F ht⟩) hS.2.2 dX4_init_33
abbrev RM_X1_init : Room := { frames := 1, cells := 2, slots := 30, locals := 12 }
set_option maxHeartbeats 4000000 in
set_option maxRecDepth 100000 in
theorem c_X1_init (l : Launch) (D : va_G) (cI cZ : ClassId) (h0 sz : Nat) : Met l yX1_init (wM yX1_init cX1_init 1 none) RM_X1_init (va_Pc [.ref h0] (pre D cI cZ [(h0, .inr (1, [.null, .null, .int 0]))] sz)) (va_Qv (fun (a : Nat → Nat) => a 0 = h0) (fun a t => post D (va_A ([(h0, .inr (1, [.null, .null, .int 0]))] : va_W) sz) (kB cI a Z0) t) (va_A ([(h0, .inr (1, [.null, .null, .int 0]))] : va_W) sz)) 2 30 (va_A ([(h0, .inr (1, [.null, .null, .int 0]))] : va_W) sz) := by
  refine Met.ofW (cc := cX1_init) (maxL := 1) (ret := none) (by decide) rfl ?_
  intro p e s m args below meth c s₁ B hml hv
  obtain ⟨rfl, hsz, hP, hK, hD0, hnw⟩ := hv
  have hx := B.exec
  have hb := B.bytes
  have hr := B.returns
  have hts := atoms_spec (ws := wM yX1_init cX1_init 1 none) B.pre
  have hG : ∀ w ∈ GW, w.before (([.ref h0] : List Value).toArray) s = true := fun w h => hts w (List.mem_cons_of_mem _ h)
  have hown : s.vm.findClass RX1 = some m.cls := findClass_of_methodNamed B.named
  have hlocks := B.notSynchronized
  have hin : meth.name = "<init>" := (name_of_methodNamed B.named B.method).1
  subst hsz
  have hD := hD0.self (sz := s.heap.size)
  generalize hAe : va_A ([(h0, .inr (1, [.null, .null, .int 0]))] : va_W) s.heap.size = A at hD ⊢
  have hA : ∀ q : Nat, s.heap.size ≤ q → A q := fun q h => by rw [← hAe]; exact Or.inr h
  have hS : va_S A s.heap s.heap [] := va_S.rf
  have hl := lv_entry ([.ref h0]) (n := 1) (Nat.le_of_ble_eq_true rfl)
  rw [lg_entry_eq]
  generalize (lg_sl ([.ref h0]) ++ List.replicate (1 - (lg_sl ([.ref h0])).length) Slot.unset).toArray = ls at hl ⊢
  have hl : lv_has ls 1 [(0, .ref h0)] := hl
  refine lv_aload_n hx hb dX1_init_0 rfl (lv_at hl 0 rfl) ?_
  refine W.objInit hx hb hown (hG _ g_197) (hG _ g_85) (hG _ g_86) rfl (by rw [hml]; exact hl.1) rfl dX1_init_1 (Nat.le_of_ble_eq_true rfl) (Nat.le_of_ble_eq_true rfl) ?_
  refine W.eq (g2 := F0 m 4 ls []) rfl ?_
  refine lv_aload_n hx hb dX1_init_4 rfl (lv_at hl 0 rfl) ?_
  refine lv_bipush (v := (15 : Int32)) hx hb dX1_init_5 (by decide) ?_
  refine va_newI hx hb (hG _ g_101) hK hP hD hS hA 15 (by decide) (by decide) (Nat.le_of_ble_eq_true rfl) (Nat.le_of_ble_eq_true rfl) (Nat.le_of_ble_eq_true rfl) dX1_init_7 (fun q1 H hP hD hS => ?_)
  have hP : va_P D vwCl ((h0, .inr (1, [.null, .null, .int 0])) :: (([] : va_W) ++ [(q1, .inl (cI, 15, .inl (fun _ => 0)))])) H := hP
  have hD : va_D A ((h0, .inr (1, [.null, .null, .int 0])) :: (([] : va_W) ++ [(q1, .inl (cI, 15, .inl (fun _ => 0)))])) := hD
  refine va_putF (D := D) (ci := 1) (v := .ref q1) (ty := (.array .int)) (C := RX1) (T := TX1) (N := 3) (fs := [.null, .null, .int 0]) hx hb hG inG1 tyX1 tyX1_ok nmX1 hown hK hP hD hS 0 rfl rfl 0 (by decide) (hG _ g_198) (fun _ h9 => h9) rfl hin rfl (by decide +kernel) rfl rfl (Nat.le_of_ble_eq_true rfl) dX1_init_9 (fun H locs hP hD hS => ?_)
  have hP : va_P D vwCl ((h0, .inr (1, [.ref q1, .null, .int 0])) :: (([] : va_W) ++ [(q1, .inl (cI, 15, .inl (fun _ => 0)))])) H := hP
  have hD : va_D A ((h0, .inr (1, [.ref q1, .null, .int 0])) :: (([] : va_W) ++ [(q1, .inl (cI, 15, .inl (fun _ => 0)))])) := hD
  refine lv_aload_n hx hb dX1_init_12 rfl (lv_at hl 0 rfl) ?_
  refine lv_bipush (v := (15 : Int32)) hx hb dX1_init_13 (by decide) ?_
  refine va_newI hx hb (hG _ g_101) hK hP hD hS hA 15 (by decide) (by decide) (Nat.le_of_ble_eq_true rfl) (Nat.le_of_ble_eq_true rfl) (Nat.le_of_ble_eq_true rfl) dX1_init_15 (fun q2 H hP hD hS => ?_)
  have hP : va_P D vwCl ((h0, .inr (1, [.ref q1, .null, .int 0])) :: (([] : va_W) ++ [(q1, .inl (cI, 15, .inl (fun _ => 0)))] ++ [(q2, .inl (cI, 15, .inl (fun _ => 0)))])) H := hP
  have hD : va_D A ((h0, .inr (1, [.ref q1, .null, .int 0])) :: (([] : va_W) ++ [(q1, .inl (cI, 15, .inl (fun _ => 0)))] ++ [(q2, .inl (cI, 15, .inl (fun _ => 0)))])) := hD
  refine va_putF (D := D) (ci := 1) (v := .ref q2) (ty := (.array .int)) (C := RX1) (T := TX1) (N := 3) (fs := [.ref q1, .null, .int 0]) hx hb hG inG1 tyX1 tyX1_ok nmX1 hown hK hP hD hS 0 rfl rfl 1 (by decide) (hG _ g_199) (fun _ h9 => h9) rfl hin rfl (by decide +kernel) rfl rfl (Nat.le_of_ble_eq_true rfl) dX1_init_17 (fun H locs hP hD hS => ?_)
  have hP : va_P D vwCl ((h0, .inr (1, [.ref q1, .ref q2, .int 0])) :: (([] : va_W) ++ [(q1, .inl (cI, 15, .inl (fun _ => 0)))] ++ [(q2, .inl (cI, 15, .inl (fun _ => 0)))])) H := hP
  have hD : va_D A ((h0, .inr (1, [.ref q1, .ref q2, .int 0])) :: (([] : va_W) ++ [(q1, .inl (cI, 15, .inl (fun _ => 0)))] ++ [(q2, .inl (cI, 15, .inl (fun _ => 0)))])) := hD
  have hP9 := subP (wc := kB cI (ofL [h0, q1, q2]) Z0) [0, 1, 2] rfl hP
  have hD9 := va_D.sub (ws' := kB cI (ofL [h0, q1, q2]) Z0) hD [0, 1, 2] (by decide +kernel) rfl
  exact W.vret hx hb hr (fun t ht hW => ⟨⟨(ofL [h0, q1, q2]), rfl, rfl, by rw [ht]; exact hP9, hD9⟩, hS.F ht⟩) hS.2.2 dX1_init_20
abbrev RM_X3_init : Room := { frames := 1, cells := 2, slots := 12, locals := 12 }
set_option maxHeartbeats 4000000 in
set_option maxRecDepth 100000 in
theorem c_X3_init (l : Launch) (D : va_G) (cI cZ : ClassId) (h0 sz : Nat) : Met l yX3_init (wM yX3_init cX3_init 1 none) RM_X3_init (va_Pc [.ref h0] (pre D cI cZ [(h0, .inr (3, [.null, .null, .int 0, .int 0]))] sz)) (va_Qv (fun (a : Nat → Nat) => a 0 = h0) (fun a t => post D (va_A ([(h0, .inr (3, [.null, .null, .int 0, .int 0]))] : va_W) sz) (kP cI a Z0) t) (va_A ([(h0, .inr (3, [.null, .null, .int 0, .int 0]))] : va_W) sz)) 2 12 (va_A ([(h0, .inr (3, [.null, .null, .int 0, .int 0]))] : va_W) sz) := by
  refine Met.ofW (cc := cX3_init) (maxL := 1) (ret := none) (by decide) rfl ?_
  intro p e s m args below meth c s₁ B hml hv
  obtain ⟨rfl, hsz, hP, hK, hD0, hnw⟩ := hv
  have hx := B.exec
  have hb := B.bytes
  have hr := B.returns
  have hts := atoms_spec (ws := wM yX3_init cX3_init 1 none) B.pre
  have hG : ∀ w ∈ GW, w.before (([.ref h0] : List Value).toArray) s = true := fun w h => hts w (List.mem_cons_of_mem _ h)
  have hown : s.vm.findClass RX3 = some m.cls := findClass_of_methodNamed B.named
  have hlocks := B.notSynchronized
  have hin : meth.name = "<init>" := (name_of_methodNamed B.named B.method).1
  subst hsz
  have hD := hD0.self (sz := s.heap.size)
  generalize hAe : va_A ([(h0, .inr (3, [.null, .null, .int 0, .int 0]))] : va_W) s.heap.size = A at hD ⊢
  have hA : ∀ q : Nat, s.heap.size ≤ q → A q := fun q h => by rw [← hAe]; exact Or.inr h
  have hS : va_S A s.heap s.heap [] := va_S.rf
  have hl := lv_entry ([.ref h0]) (n := 1) (Nat.le_of_ble_eq_true rfl)
  rw [lg_entry_eq]
  generalize (lg_sl ([.ref h0]) ++ List.replicate (1 - (lg_sl ([.ref h0])).length) Slot.unset).toArray = ls at hl ⊢
  have hl : lv_has ls 1 [(0, .ref h0)] := hl
  refine lv_aload_n hx hb dX3_init_0 rfl (lv_at hl 0 rfl) ?_
  refine W.objInit hx hb hown (hG _ g_207) (hG _ g_85) (hG _ g_86) rfl (by rw [hml]; exact hl.1) rfl dX3_init_1 (Nat.le_of_ble_eq_true rfl) (Nat.le_of_ble_eq_true rfl) ?_
  refine W.eq (g2 := F0 m 4 ls []) rfl ?_
  refine lv_aload_n hx hb dX3_init_4 rfl (lv_at hl 0 rfl) ?_
  refine lv_bipush (v := (6 : Int32)) hx hb dX3_init_5 (by decide) ?_
  refine va_newI hx hb (hG _ g_101) hK hP hD hS hA 6 (by decide) (by decide) (Nat.le_of_ble_eq_true rfl) (Nat.le_of_ble_eq_true rfl) (Nat.le_of_ble_eq_true rfl) dX3_init_7 (fun q1 H hP hD hS => ?_)
  have hP : va_P D vwCl ((h0, .inr (3, [.null, .null, .int 0, .int 0])) :: (([] : va_W) ++ [(q1, .inl (cI, 6, .inl (fun _ => 0)))])) H := hP
  have hD : va_D A ((h0, .inr (3, [.null, .null, .int 0, .int 0])) :: (([] : va_W) ++ [(q1, .inl (cI, 6, .inl (fun _ => 0)))])) := hD
  refine va_putF (D := D) (ci := 3) (v := .ref q1) (ty := (.array .int)) (C := RX3) (T := TX3) (N := 4) (fs := [.null, .null, .int 0, .int 0]) hx hb hG inG3 tyX3 tyX3_ok nmX3 hown hK hP hD hS 0 rfl rfl 0 (by decide) (hG _ g_208) (fun _ h9 => h9) rfl hin rfl (by decide +kernel) rfl rfl (Nat.le_of_ble_eq_true rfl) dX3_init_9 (fun H locs hP hD hS => ?_)
  have hP : va_P D vwCl ((h0, .inr (3, [.ref q1, .null, .int 0, .int 0])) :: (([] : va_W) ++ [(q1, .inl (cI, 6, .inl (fun _ => 0)))])) H := hP
  have hD : va_D A ((h0, .inr (3, [.ref q1, .null, .int 0, .int 0])) :: (([] : va_W) ++ [(q1, .inl (cI, 6, .inl (fun _ => 0)))])) := hD
  refine lv_aload_n hx hb dX3_init_12 rfl (lv_at hl 0 rfl) ?_
  refine lv_bipush (v := (6 : Int32)) hx hb dX3_init_13 (by decide) ?_
  refine va_newI hx hb (hG _ g_101) hK hP hD hS hA 6 (by decide) (by decide) (Nat.le_of_ble_eq_true rfl) (Nat.le_of_ble_eq_true rfl) (Nat.le_of_ble_eq_true rfl) dX3_init_15 (fun q2 H hP hD hS => ?_)
  have hP : va_P D vwCl ((h0, .inr (3, [.ref q1, .null, .int 0, .int 0])) :: (([] : va_W) ++ [(q1, .inl (cI, 6, .inl (fun _ => 0)))] ++ [(q2, .inl (cI, 6, .inl (fun _ => 0)))])) H := hP
  have hD : va_D A ((h0, .inr (3, [.ref q1, .null, .int 0, .int 0])) :: (([] : va_W) ++ [(q1, .inl (cI, 6, .inl (fun _ => 0)))] ++ [(q2, .inl (cI, 6, .inl (fun _ => 0)))])) := hD
  refine va_putF (D := D) (ci := 3) (v := .ref q2) (ty := (.array .int)) (C := RX3) (T := TX3) (N := 4) (fs := [.ref q1, .null, .int 0, .int 0]) hx hb hG inG3 tyX3 tyX3_ok nmX3 hown hK hP hD hS 0 rfl rfl 1 (by decide) (hG _ g_210) (fun _ h9 => h9) rfl hin rfl (by decide +kernel) rfl rfl (Nat.le_of_ble_eq_true rfl) dX3_init_17 (fun H locs hP hD hS => ?_)
  have hP : va_P D vwCl ((h0, .inr (3, [.ref q1, .ref q2, .int 0, .int 0])) :: (([] : va_W) ++ [(q1, .inl (cI, 6, .inl (fun _ => 0)))] ++ [(q2, .inl (cI, 6, .inl (fun _ => 0)))])) H := hP
  have hD : va_D A ((h0, .inr (3, [.ref q1, .ref q2, .int 0, .int 0])) :: (([] : va_W) ++ [(q1, .inl (cI, 6, .inl (fun _ => 0)))] ++ [(q2, .inl (cI, 6, .inl (fun _ => 0)))])) := hD
  have hP9 := subP (wc := kP cI (ofL [h0, q1, q2]) Z0) [0, 1, 2] rfl hP
  have hD9 := va_D.sub (ws' := kP cI (ofL [h0, q1, q2]) Z0) hD [0, 1, 2] (by decide +kernel) rfl
  exact W.vret hx hb hr (fun t ht hW => ⟨⟨(ofL [h0, q1, q2]), rfl, rfl, by rw [ht]; exact hP9, hD9⟩, hS.F ht⟩) hS.2.2 dX3_init_20
abbrev RM_X0_init : Room := { frames := 1, cells := 2, slots := 11, locals := 12 }
set_option maxHeartbeats 4000000 in
set_option maxRecDepth 100000 in
theorem c_X0_init (l : Launch) (D : va_G) (cI cZ : ClassId) (h0 sz : Nat) : Met l yX0_init (wM yX0_init cX0_init 1 none) RM_X0_init (va_Pc [.ref h0] (pre D cI cZ [(h0, .inr (0, [.null, .null]))] sz)) (va_Qv (fun (a : Nat → Nat) => a 0 = h0) (fun a t => post D (va_A ([(h0, .inr (0, [.null, .null]))] : va_W) sz) (kW cI a Z0) t) (va_A ([(h0, .inr (0, [.null, .null]))] : va_W) sz)) 2 11 (va_A ([(h0, .inr (0, [.null, .null]))] : va_W) sz) := by
  refine Met.ofW (cc := cX0_init) (maxL := 1) (ret := none) (by decide) rfl ?_
  intro p e s m args below meth c s₁ B hml hv
  obtain ⟨rfl, hsz, hP, hK, hD0, hnw⟩ := hv
  have hx := B.exec
  have hb := B.bytes
  have hr := B.returns
  have hts := atoms_spec (ws := wM yX0_init cX0_init 1 none) B.pre
  have hG : ∀ w ∈ GW, w.before (([.ref h0] : List Value).toArray) s = true := fun w h => hts w (List.mem_cons_of_mem _ h)
  have hown : s.vm.findClass RX0 = some m.cls := findClass_of_methodNamed B.named
  have hlocks := B.notSynchronized
  have hin : meth.name = "<init>" := (name_of_methodNamed B.named B.method).1
  subst hsz
  have hD := hD0.self (sz := s.heap.size)
  generalize hAe : va_A ([(h0, .inr (0, [.null, .null]))] : va_W) s.heap.size = A at hD ⊢
  have hA : ∀ q : Nat, s.heap.size ≤ q → A q := fun q h => by rw [← hAe]; exact Or.inr h
  have hS : va_S A s.heap s.heap [] := va_S.rf
  have hl := lv_entry ([.ref h0]) (n := 1) (Nat.le_of_ble_eq_true rfl)
  rw [lg_entry_eq]
  generalize (lg_sl ([.ref h0]) ++ List.replicate (1 - (lg_sl ([.ref h0])).length) Slot.unset).toArray = ls at hl ⊢
  have hl : lv_has ls 1 [(0, .ref h0)] := hl
  refine lv_aload_n hx hb dX0_init_0 rfl (lv_at hl 0 rfl) ?_
  refine W.objInit hx hb hown (hG _ g_220) (hG _ g_85) (hG _ g_86) rfl (by rw [hml]; exact hl.1) rfl dX0_init_1 (Nat.le_of_ble_eq_true rfl) (Nat.le_of_ble_eq_true rfl) ?_
  refine W.eq (g2 := F0 m 4 ls []) rfl ?_
  refine lv_aload_n hx hb dX0_init_4 rfl (lv_at hl 0 rfl) ?_
  refine lv_iconst (v := (5 : Int32)) hx hb dX0_init_5 (by decide) ?_
  refine va_newI hx hb (hG _ g_101) hK hP hD hS hA 5 (by decide) (by decide) (Nat.le_of_ble_eq_true rfl) (Nat.le_of_ble_eq_true rfl) (Nat.le_of_ble_eq_true rfl) dX0_init_6 (fun q1 H hP hD hS => ?_)
  have hP : va_P D vwCl ((h0, .inr (0, [.null, .null])) :: (([] : va_W) ++ [(q1, .inl (cI, 5, .inl (fun _ => 0)))])) H := hP
  have hD : va_D A ((h0, .inr (0, [.null, .null])) :: (([] : va_W) ++ [(q1, .inl (cI, 5, .inl (fun _ => 0)))])) := hD
  refine va_putF (D := D) (ci := 0) (v := .ref q1) (ty := (.array .int)) (C := RX0) (T := TX0) (N := 2) (fs := [.null, .null]) hx hb hG inG0 tyX0 tyX0_ok nmX0 hown hK hP hD hS 0 rfl rfl 0 (by decide) (hG _ g_221) (fun _ h9 => h9) rfl hin rfl (by decide +kernel) rfl rfl (Nat.le_of_ble_eq_true rfl) dX0_init_8 (fun H locs hP hD hS => ?_)
  have hP : va_P D vwCl ((h0, .inr (0, [.ref q1, .null])) :: (([] : va_W) ++ [(q1, .inl (cI, 5, .inl (fun _ => 0)))])) H := hP
  have hD : va_D A ((h0, .inr (0, [.ref q1, .null])) :: (([] : va_W) ++ [(q1, .inl (cI, 5, .inl (fun _ => 0)))])) := hD
  refine lv_aload_n hx hb dX0_init_11 rfl (lv_at hl 0 rfl) ?_
  refine lv_bipush (v := (6 : Int32)) hx hb dX0_init_12 (by decide) ?_
  refine va_newI hx hb (hG _ g_101) hK hP hD hS hA 6 (by decide) (by decide) (Nat.le_of_ble_eq_true rfl) (Nat.le_of_ble_eq_true rfl) (Nat.le_of_ble_eq_true rfl) dX0_init_14 (fun q2 H hP hD hS => ?_)
  have hP : va_P D vwCl ((h0, .inr (0, [.ref q1, .null])) :: (([] : va_W) ++ [(q1, .inl (cI, 5, .inl (fun _ => 0)))] ++ [(q2, .inl (cI, 6, .inl (fun _ => 0)))])) H := hP
  have hD : va_D A ((h0, .inr (0, [.ref q1, .null])) :: (([] : va_W) ++ [(q1, .inl (cI, 5, .inl (fun _ => 0)))] ++ [(q2, .inl (cI, 6, .inl (fun _ => 0)))])) := hD
  refine va_putF (D := D) (ci := 0) (v := .ref q2) (ty := (.array .int)) (C := RX0) (T := TX0) (N := 2) (fs := [.ref q1, .null]) hx hb hG inG0 tyX0 tyX0_ok nmX0 hown hK hP hD hS 0 rfl rfl 1 (by decide) (hG _ g_223) (fun _ h9 => h9) rfl hin rfl (by decide +kernel) rfl rfl (Nat.le_of_ble_eq_true rfl) dX0_init_16 (fun H locs hP hD hS => ?_)
  have hP : va_P D vwCl ((h0, .inr (0, [.ref q1, .ref q2])) :: (([] : va_W) ++ [(q1, .inl (cI, 5, .inl (fun _ => 0)))] ++ [(q2, .inl (cI, 6, .inl (fun _ => 0)))])) H := hP
  have hD : va_D A ((h0, .inr (0, [.ref q1, .ref q2])) :: (([] : va_W) ++ [(q1, .inl (cI, 5, .inl (fun _ => 0)))] ++ [(q2, .inl (cI, 6, .inl (fun _ => 0)))])) := hD
  have hP9 := subP (wc := kW cI (ofL [h0, q1, q2]) Z0) [0, 1, 2] rfl hP
  have hD9 := va_D.sub (ws' := kW cI (ofL [h0, q1, q2]) Z0) hD [0, 1, 2] (by decide +kernel) rfl
  exact W.vret hx hb hr (fun t ht hW => ⟨⟨(ofL [h0, q1, q2]), rfl, rfl, by rw [ht]; exact hP9, hD9⟩, hS.F ht⟩) hS.2.2 dX0_init_19
abbrev RM_X6_init : Room := { frames := 2, cells := 53, slots := 690, locals := 32 }
set_option maxHeartbeats 4000000 in
set_option maxRecDepth 100000 in
theorem c_X6_init (l : Launch) (D : va_G) (cI cZ : ClassId) (h0 sz : Nat) : Met l yX6_init (wM yX6_init cX6_init 1 none) RM_X6_init (va_Pc [.ref h0] (pre D cI cZ [(h0, .inr (6, [.null, .null, .null, .null, .null, .null, .null, .null, .null, .null]))] sz)) (va_Qv (fun (a : Nat → Nat → Nat) => a 0 0 = h0) (fun a t => post D (va_A ([(h0, .inr (6, [.null, .null, .null, .null, .null, .null, .null, .null, .null, .null]))] : va_W) sz) (cW cI a C0) t) (va_A ([(h0, .inr (6, [.null, .null, .null, .null, .null, .null, .null, .null, .null, .null]))] : va_W) sz)) 53 690 (va_A ([(h0, .inr (6, [.null, .null, .null, .null, .null, .null, .null, .null, .null, .null]))] : va_W) sz) := by
  refine Met.ofW (cc := cX6_init) (maxL := 1) (ret := none) (by decide) rfl ?_
  intro p e s m args below meth c s₁ B hml hv
  obtain ⟨rfl, hsz, hP, hK, hD0, hnw⟩ := hv
  have hx := B.exec
  have hb := B.bytes
  have hr := B.returns
  have hts := atoms_spec (ws := wM yX6_init cX6_init 1 none) B.pre
  have hG : ∀ w ∈ GW, w.before (([.ref h0] : List Value).toArray) s = true := fun w h => hts w (List.mem_cons_of_mem _ h)
  have hown : s.vm.findClass RX6 = some m.cls := findClass_of_methodNamed B.named
  have hlocks := B.notSynchronized
  have hin : meth.name = "<init>" := (name_of_methodNamed B.named B.method).1
  subst hsz
  have hD := hD0.self (sz := s.heap.size)
  generalize hAe : va_A ([(h0, .inr (6, [.null, .null, .null, .null, .null, .null, .null, .null, .null, .null]))] : va_W) s.heap.size = A at hD ⊢
  have hA : ∀ q : Nat, s.heap.size ≤ q → A q := fun q h => by rw [← hAe]; exact Or.inr h
  have hS : va_S A s.heap s.heap [] := va_S.rf
  have hl := lv_entry ([.ref h0]) (n := 1) (Nat.le_of_ble_eq_true rfl)
  rw [lg_entry_eq]
  generalize (lg_sl ([.ref h0]) ++ List.replicate (1 - (lg_sl ([.ref h0])).length) Slot.unset).toArray = ls at hl ⊢
  have hl : lv_has ls 1 [(0, .ref h0)] := hl
  refine lv_aload_n hx hb dX6_init_0 rfl (lv_at hl 0 rfl) ?_
  refine W.objInit hx hb hown (hG _ g_84) (hG _ g_85) (hG _ g_86) rfl (by rw [hml]; exact hl.1) rfl dX6_init_1 (Nat.le_of_ble_eq_true rfl) (Nat.le_of_ble_eq_true rfl) ?_
  refine W.eq (g2 := F0 m 4 ls []) rfl ?_
  refine lv_aload_n hx hb dX6_init_4 rfl (lv_at hl 0 rfl) ?_
  refine va_new (ci := 5) (fs := [.null, .int 0, .int 0, .int 0, .int 0, .int 0]) (C := RX5) (T := TX5) (N := 6) hx hb hG inG5 tyX5 tyX5_ok hown (hG _ g_87) (hG _ g_88) (hG _ g_71) hK hP hD hS hA rfl (fun j hj => by rcases (show j = 0 ∨ j = 1 ∨ j = 2 ∨ j = 3 ∨ j = 4 ∨ j = 5 by omega) with rfl | rfl | rfl | rfl | rfl | rfl <;> rfl) (Nat.le_of_ble_eq_true rfl) (Nat.le_of_ble_eq_true rfl) dX6_init_5 (fun q1 H hP hD hS => ?_)
  refine lv_dup hx hb dX6_init_8 rfl ?_
  have hP : va_P D vwCl (((h0, .inr (6, [.null, .null, .null, .null, .null, .null, .null, .null, .null, .null])) :: (([] : va_W))) ++ ([(q1, .inr (5, [.null, .int 0, .int 0, .int 0, .int 0, .int 0]))] : va_W)) H := hP
  have hD : va_D A (((h0, .inr (6, [.null, .null, .null, .null, .null, .null, .null, .null, .null, .null])) :: (([] : va_W))) ++ ([(q1, .inr (5, [.null, .int 0, .int 0, .int 0, .int 0, .int 0]))] : va_W)) := hD
  have hPc := lastP hP
  have hDc := lastD hD
  have hFc := lastF hD hS hA
  refine va_callv (va_runI (As := []) (rest := [.ref q1, .ref h0]) ⟨hx, hb, hml, hown, hG⟩ (c_X5_init l D cI cZ q1 H.size) (cwI 0 hG (gC g_91) rfl rfl rfl (hG _ g_71) (hG _ g_89) (hG _ g_90) rfl (by decide +kernel) ⟨(Nat.le_of_ble_eq_true rfl), (Nat.le_of_ble_eq_true rfl)⟩) ⟨pre_blind, fun U hU hW => ⟨rfl, pre_of hPc hK hDc hnw hU hW⟩⟩ rfl rfl hl.1 rfl (lv_room (Nat.le_of_ble_eq_true rfl)) dX6_init_9 ⟨(Nat.le_of_ble_eq_true rfl), (Nat.le_of_ble_eq_true rfl)⟩) hS (fun q _ h => hFc q h) hFc (fun b1 t H locs ht hvm hw hB hz1 hk1 hS => ?_)
  subst hw
  obtain ⟨hP1, hD1⟩ := hB
  rw [ht] at hP1
  obtain ⟨hP, hD⟩ := join1 hP hD hk1 hFc hP1 hD1
  clear hPc hDc hFc hk1 hP1 hD1 ht hvm hz1
  have hP : va_P D vwCl ((h0, .inr (6, [.null, .null, .null, .null, .null, .null, .null, .null, .null, .null])) :: (([] : va_W) ++ kT cI b1 (sf Z0 5 (-1 : Int32)))) H := hP
  have hD : va_D A ((h0, .inr (6, [.null, .null, .null, .null, .null, .null, .null, .null, .null, .null])) :: (([] : va_W) ++ kT cI b1 (sf Z0 5 (-1 : Int32)))) := hD
  refine va_putF (D := D) (ci := 6) (v := .ref (b1 0)) (ty := (.object "SevenBlows$TextReader")) (C := RX6) (T := TX6) (N := 10) (fs := [.null, .null, .null, .null, .null, .null, .null, .null, .null, .null]) hx hb hG inG6 tyX6 tyX6_ok nmX6 hown hK hP hD hS 0 rfl rfl 0 (by decide) (hG _ g_224) (fun _ h9 => h9) rfl hin rfl (by decide +kernel) rfl rfl (Nat.le_of_ble_eq_true rfl) dX6_init_12 (fun H locs hP hD hS => ?_)
  have hP : va_P D vwCl ((h0, .inr (6, [.ref (b1 0), .null, .null, .null, .null, .null, .null, .null, .null, .null])) :: (([] : va_W) ++ kT cI b1 (sf Z0 5 (-1 : Int32)))) H := hP
  have hD : va_D A ((h0, .inr (6, [.ref (b1 0), .null, .null, .null, .null, .null, .null, .null, .null, .null])) :: (([] : va_W) ++ kT cI b1 (sf Z0 5 (-1 : Int32)))) := hD
  refine lv_aload_n hx hb dX6_init_15 rfl (lv_at hl 0 rfl) ?_
  refine va_new (ci := 2) (fs := [.int 0, .int 0, .int 0, .int 0, .int 0, .int 0, .null, .null, .null, .null, .null, .null, .null, .null, .null, .null, .null, .null]) (C := RX2) (T := TX2) (N := 18) hx hb hG inG2 tyX2 tyX2_ok hown (hG _ g_102) (hG _ g_103) (hG _ g_72) hK hP hD hS hA rfl (fun j hj => by rcases (show j = 0 ∨ j = 1 ∨ j = 2 ∨ j = 3 ∨ j = 4 ∨ j = 5 ∨ j = 6 ∨ j = 7 ∨ j = 8 ∨ j = 9 ∨ j = 10 ∨ j = 11 ∨ j = 12 ∨ j = 13 ∨ j = 14 ∨ j = 15 ∨ j = 16 ∨ j = 17 by omega) with rfl | rfl | rfl | rfl | rfl | rfl | rfl | rfl | rfl | rfl | rfl | rfl | rfl | rfl | rfl | rfl | rfl | rfl <;> rfl) (Nat.le_of_ble_eq_true rfl) (Nat.le_of_ble_eq_true rfl) dX6_init_16 (fun q2 H hP hD hS => ?_)
  refine lv_dup hx hb dX6_init_19 rfl ?_
  have hP : va_P D vwCl (((h0, .inr (6, [.ref (b1 0), .null, .null, .null, .null, .null, .null, .null, .null, .null])) :: (([] : va_W) ++ kT cI b1 (sf Z0 5 (-1 : Int32)))) ++ ([(q2, .inr (2, [.int 0, .int 0, .int 0, .int 0, .int 0, .int 0, .null, .null, .null, .null, .null, .null, .null, .null, .null, .null, .null, .null]))] : va_W)) H := hP
  have hD : va_D A (((h0, .inr (6, [.ref (b1 0), .null, .null, .null, .null, .null, .null, .null, .null, .null])) :: (([] : va_W) ++ kT cI b1 (sf Z0 5 (-1 : Int32)))) ++ ([(q2, .inr (2, [.int 0, .int 0, .int 0, .int 0, .int 0, .int 0, .null, .null, .null, .null, .null, .null, .null, .null, .null, .null, .null, .null]))] : va_W)) := hD
  have hPc := lastP hP
  have hDc := lastD hD
  have hFc := lastF hD hS hA
  refine va_callv (va_runI (As := []) (rest := [.ref q2, .ref h0]) ⟨hx, hb, hml, hown, hG⟩ (c_X2_init l D cI cZ q2 H.size) (cwI 0 hG (gC g_106) rfl rfl rfl (hG _ g_72) (hG _ g_104) (hG _ g_105) rfl (by decide +kernel) ⟨(Nat.le_of_ble_eq_true rfl), (Nat.le_of_ble_eq_true rfl)⟩) ⟨pre_blind, fun U hU hW => ⟨rfl, pre_of hPc hK hDc hnw hU hW⟩⟩ rfl rfl hl.1 rfl (lv_room (Nat.le_of_ble_eq_true rfl)) dX6_init_20 ⟨(Nat.le_of_ble_eq_true rfl), (Nat.le_of_ble_eq_true rfl)⟩) hS (fun q _ h => hFc q h) hFc (fun b2 t H locs ht hvm hw hB hz1 hk1 hS => ?_)
  subst hw
  obtain ⟨hP1, hD1⟩ := hB
  rw [ht] at hP1
  obtain ⟨hP, hD⟩ := join1 hP hD hk1 hFc hP1 hD1
  clear hPc hDc hFc hk1 hP1 hD1 ht hvm hz1
  have hP : va_P D vwCl ((h0, .inr (6, [.ref (b1 0), .null, .null, .null, .null, .null, .null, .null, .null, .null])) :: (([] : va_W) ++ kT cI b1 (sf Z0 5 (-1 : Int32)) ++ kL cI b2 Z0)) H := hP
  have hD : va_D A ((h0, .inr (6, [.ref (b1 0), .null, .null, .null, .null, .null, .null, .null, .null, .null])) :: (([] : va_W) ++ kT cI b1 (sf Z0 5 (-1 : Int32)) ++ kL cI b2 Z0)) := hD
  refine va_put (D := D) (ci := 6) (v := .ref (b2 0)) (ty := (.object "SevenBlows$Land")) (C := RX6) (T := TX6) (N := 10) (fs := [.ref (b1 0), .null, .null, .null, .null, .null, .null, .null, .null, .null]) hx hb hG inG6 tyX6 tyX6_ok nmX6 hown hK hP hD hS 0 rfl rfl 1 (by decide) (hG _ g_225) (fun _ h9 => h9) rfl (by decide +kernel) rfl rfl (Nat.le_of_ble_eq_true rfl) dX6_init_23 (fun H locs hP hD hS => ?_)
  have hP : va_P D vwCl ((h0, .inr (6, [.ref (b1 0), .ref (b2 0), .null, .null, .null, .null, .null, .null, .null, .null])) :: (([] : va_W) ++ kT cI b1 (sf Z0 5 (-1 : Int32)) ++ kL cI b2 Z0)) H := hP
  have hD : va_D A ((h0, .inr (6, [.ref (b1 0), .ref (b2 0), .null, .null, .null, .null, .null, .null, .null, .null])) :: (([] : va_W) ++ kT cI b1 (sf Z0 5 (-1 : Int32)) ++ kL cI b2 Z0)) := hD
  refine lv_aload_n hx hb dX6_init_26 rfl (lv_at hl 0 rfl) ?_
  refine va_new (ci := 2) (fs := [.int 0, .int 0, .int 0, .int 0, .int 0, .int 0, .null, .null, .null, .null, .null, .null, .null, .null, .null, .null, .null, .null]) (C := RX2) (T := TX2) (N := 18) hx hb hG inG2 tyX2 tyX2_ok hown (hG _ g_102) (hG _ g_103) (hG _ g_72) hK hP hD hS hA rfl (fun j hj => by rcases (show j = 0 ∨ j = 1 ∨ j = 2 ∨ j = 3 ∨ j = 4 ∨ j = 5 ∨ j = 6 ∨ j = 7 ∨ j = 8 ∨ j = 9 ∨ j = 10 ∨ j = 11 ∨ j = 12 ∨ j = 13 ∨ j = 14 ∨ j = 15 ∨ j = 16 ∨ j = 17 by omega) with rfl | rfl | rfl | rfl | rfl | rfl | rfl | rfl | rfl | rfl | rfl | rfl | rfl | rfl | rfl | rfl | rfl | rfl <;> rfl) (Nat.le_of_ble_eq_true rfl) (Nat.le_of_ble_eq_true rfl) dX6_init_27 (fun q3 H hP hD hS => ?_)
  refine lv_dup hx hb dX6_init_30 rfl ?_
  have hP : va_P D vwCl (((h0, .inr (6, [.ref (b1 0), .ref (b2 0), .null, .null, .null, .null, .null, .null, .null, .null])) :: (([] : va_W) ++ kT cI b1 (sf Z0 5 (-1 : Int32)) ++ kL cI b2 Z0)) ++ ([(q3, .inr (2, [.int 0, .int 0, .int 0, .int 0, .int 0, .int 0, .null, .null, .null, .null, .null, .null, .null, .null, .null, .null, .null, .null]))] : va_W)) H := hP
  have hD : va_D A (((h0, .inr (6, [.ref (b1 0), .ref (b2 0), .null, .null, .null, .null, .null, .null, .null, .null])) :: (([] : va_W) ++ kT cI b1 (sf Z0 5 (-1 : Int32)) ++ kL cI b2 Z0)) ++ ([(q3, .inr (2, [.int 0, .int 0, .int 0, .int 0, .int 0, .int 0, .null, .null, .null, .null, .null, .null, .null, .null, .null, .null, .null, .null]))] : va_W)) := hD
  have hPc := lastP hP
  have hDc := lastD hD
  have hFc := lastF hD hS hA
  refine va_callv (va_runI (As := []) (rest := [.ref q3, .ref h0]) ⟨hx, hb, hml, hown, hG⟩ (c_X2_init l D cI cZ q3 H.size) (cwI 0 hG (gC g_106) rfl rfl rfl (hG _ g_72) (hG _ g_104) (hG _ g_105) rfl (by decide +kernel) ⟨(Nat.le_of_ble_eq_true rfl), (Nat.le_of_ble_eq_true rfl)⟩) ⟨pre_blind, fun U hU hW => ⟨rfl, pre_of hPc hK hDc hnw hU hW⟩⟩ rfl rfl hl.1 rfl (lv_room (Nat.le_of_ble_eq_true rfl)) dX6_init_31 ⟨(Nat.le_of_ble_eq_true rfl), (Nat.le_of_ble_eq_true rfl)⟩) hS (fun q _ h => hFc q h) hFc (fun b3 t H locs ht hvm hw hB hz1 hk1 hS => ?_)
  subst hw
  obtain ⟨hP1, hD1⟩ := hB
  rw [ht] at hP1
  obtain ⟨hP, hD⟩ := join1 hP hD hk1 hFc hP1 hD1
  clear hPc hDc hFc hk1 hP1 hD1 ht hvm hz1
  have hP : va_P D vwCl ((h0, .inr (6, [.ref (b1 0), .ref (b2 0), .null, .null, .null, .null, .null, .null, .null, .null])) :: (([] : va_W) ++ kT cI b1 (sf Z0 5 (-1 : Int32)) ++ kL cI b2 Z0 ++ kL cI b3 Z0)) H := hP
  have hD : va_D A ((h0, .inr (6, [.ref (b1 0), .ref (b2 0), .null, .null, .null, .null, .null, .null, .null, .null])) :: (([] : va_W) ++ kT cI b1 (sf Z0 5 (-1 : Int32)) ++ kL cI b2 Z0 ++ kL cI b3 Z0)) := hD
  refine va_put (D := D) (ci := 6) (v := .ref (b3 0)) (ty := (.object "SevenBlows$Land")) (C := RX6) (T := TX6) (N := 10) (fs := [.ref (b1 0), .ref (b2 0), .null, .null, .null, .null, .null, .null, .null, .null]) hx hb hG inG6 tyX6 tyX6_ok nmX6 hown hK hP hD hS 0 rfl rfl 2 (by decide) (hG _ g_226) (fun _ h9 => h9) rfl (by decide +kernel) rfl rfl (Nat.le_of_ble_eq_true rfl) dX6_init_34 (fun H locs hP hD hS => ?_)
  have hP : va_P D vwCl ((h0, .inr (6, [.ref (b1 0), .ref (b2 0), .ref (b3 0), .null, .null, .null, .null, .null, .null, .null])) :: (([] : va_W) ++ kT cI b1 (sf Z0 5 (-1 : Int32)) ++ kL cI b2 Z0 ++ kL cI b3 Z0)) H := hP
  have hD : va_D A ((h0, .inr (6, [.ref (b1 0), .ref (b2 0), .ref (b3 0), .null, .null, .null, .null, .null, .null, .null])) :: (([] : va_W) ++ kT cI b1 (sf Z0 5 (-1 : Int32)) ++ kL cI b2 Z0 ++ kL cI b3 Z0)) := hD
  refine lv_aload_n hx hb dX6_init_37 rfl (lv_at hl 0 rfl) ?_
  refine va_new (ci := 4) (fs := [.null, .null, .null, .null, .int 0, .int 0, .int 0]) (C := RX4) (T := TX4) (N := 7) hx hb hG inG4 tyX4 tyX4_ok hown (hG _ g_167) (hG _ g_168) (hG _ g_73) hK hP hD hS hA rfl (fun j hj => by rcases (show j = 0 ∨ j = 1 ∨ j = 2 ∨ j = 3 ∨ j = 4 ∨ j = 5 ∨ j = 6 by omega) with rfl | rfl | rfl | rfl | rfl | rfl | rfl <;> rfl) (Nat.le_of_ble_eq_true rfl) (Nat.le_of_ble_eq_true rfl) dX6_init_38 (fun q4 H hP hD hS => ?_)
  refine lv_dup hx hb dX6_init_41 rfl ?_
  have hP : va_P D vwCl (((h0, .inr (6, [.ref (b1 0), .ref (b2 0), .ref (b3 0), .null, .null, .null, .null, .null, .null, .null])) :: (([] : va_W) ++ kT cI b1 (sf Z0 5 (-1 : Int32)) ++ kL cI b2 Z0 ++ kL cI b3 Z0)) ++ ([(q4, .inr (4, [.null, .null, .null, .null, .int 0, .int 0, .int 0]))] : va_W)) H := hP
  have hD : va_D A (((h0, .inr (6, [.ref (b1 0), .ref (b2 0), .ref (b3 0), .null, .null, .null, .null, .null, .null, .null])) :: (([] : va_W) ++ kT cI b1 (sf Z0 5 (-1 : Int32)) ++ kL cI b2 Z0 ++ kL cI b3 Z0)) ++ ([(q4, .inr (4, [.null, .null, .null, .null, .int 0, .int 0, .int 0]))] : va_W)) := hD
  have hPc := lastP hP
  have hDc := lastD hD
  have hFc := lastF hD hS hA
  refine va_callv (va_runI (As := []) (rest := [.ref q4, .ref h0]) ⟨hx, hb, hml, hown, hG⟩ (c_X4_init l D cI cZ q4 H.size) (cwI 0 hG (gC g_171) rfl rfl rfl (hG _ g_73) (hG _ g_169) (hG _ g_170) rfl (by decide +kernel) ⟨(Nat.le_of_ble_eq_true rfl), (Nat.le_of_ble_eq_true rfl)⟩) ⟨pre_blind, fun U hU hW => ⟨rfl, pre_of hPc hK hDc hnw hU hW⟩⟩ rfl rfl hl.1 rfl (lv_room (Nat.le_of_ble_eq_true rfl)) dX6_init_42 ⟨(Nat.le_of_ble_eq_true rfl), (Nat.le_of_ble_eq_true rfl)⟩) hS (fun q _ h => hFc q h) hFc (fun b4 t H locs ht hvm hw hB hz1 hk1 hS => ?_)
  subst hw
  obtain ⟨hP1, hD1⟩ := hB
  rw [ht] at hP1
  obtain ⟨hP, hD⟩ := join1 hP hD hk1 hFc hP1 hD1
  clear hPc hDc hFc hk1 hP1 hD1 ht hvm hz1
  have hP : va_P D vwCl ((h0, .inr (6, [.ref (b1 0), .ref (b2 0), .ref (b3 0), .null, .null, .null, .null, .null, .null, .null])) :: (([] : va_W) ++ kT cI b1 (sf Z0 5 (-1 : Int32)) ++ kL cI b2 Z0 ++ kL cI b3 Z0 ++ kS cI b4 Z0)) H := hP
  have hD : va_D A ((h0, .inr (6, [.ref (b1 0), .ref (b2 0), .ref (b3 0), .null, .null, .null, .null, .null, .null, .null])) :: (([] : va_W) ++ kT cI b1 (sf Z0 5 (-1 : Int32)) ++ kL cI b2 Z0 ++ kL cI b3 Z0 ++ kS cI b4 Z0)) := hD
  refine va_putF (D := D) (ci := 6) (v := .ref (b4 0)) (ty := (.object "SevenBlows$State")) (C := RX6) (T := TX6) (N := 10) (fs := [.ref (b1 0), .ref (b2 0), .ref (b3 0), .null, .null, .null, .null, .null, .null, .null]) hx hb hG inG6 tyX6 tyX6_ok nmX6 hown hK hP hD hS 0 rfl rfl 3 (by decide) (hG _ g_227) (fun _ h9 => h9) rfl hin rfl (by decide +kernel) rfl rfl (Nat.le_of_ble_eq_true rfl) dX6_init_45 (fun H locs hP hD hS => ?_)
  have hP : va_P D vwCl ((h0, .inr (6, [.ref (b1 0), .ref (b2 0), .ref (b3 0), .ref (b4 0), .null, .null, .null, .null, .null, .null])) :: (([] : va_W) ++ kT cI b1 (sf Z0 5 (-1 : Int32)) ++ kL cI b2 Z0 ++ kL cI b3 Z0 ++ kS cI b4 Z0)) H := hP
  have hD : va_D A ((h0, .inr (6, [.ref (b1 0), .ref (b2 0), .ref (b3 0), .ref (b4 0), .null, .null, .null, .null, .null, .null])) :: (([] : va_W) ++ kT cI b1 (sf Z0 5 (-1 : Int32)) ++ kL cI b2 Z0 ++ kL cI b3 Z0 ++ kS cI b4 Z0)) := hD
  refine lv_aload_n hx hb dX6_init_48 rfl (lv_at hl 0 rfl) ?_
  refine va_new (ci := 4) (fs := [.null, .null, .null, .null, .int 0, .int 0, .int 0]) (C := RX4) (T := TX4) (N := 7) hx hb hG inG4 tyX4 tyX4_ok hown (hG _ g_167) (hG _ g_168) (hG _ g_73) hK hP hD hS hA rfl (fun j hj => by rcases (show j = 0 ∨ j = 1 ∨ j = 2 ∨ j = 3 ∨ j = 4 ∨ j = 5 ∨ j = 6 by omega) with rfl | rfl | rfl | rfl | rfl | rfl | rfl <;> rfl) (Nat.le_of_ble_eq_true rfl) (Nat.le_of_ble_eq_true rfl) dX6_init_49 (fun q5 H hP hD hS => ?_)
  refine lv_dup hx hb dX6_init_52 rfl ?_
  have hP : va_P D vwCl (((h0, .inr (6, [.ref (b1 0), .ref (b2 0), .ref (b3 0), .ref (b4 0), .null, .null, .null, .null, .null, .null])) :: (([] : va_W) ++ kT cI b1 (sf Z0 5 (-1 : Int32)) ++ kL cI b2 Z0 ++ kL cI b3 Z0 ++ kS cI b4 Z0)) ++ ([(q5, .inr (4, [.null, .null, .null, .null, .int 0, .int 0, .int 0]))] : va_W)) H := hP
  have hD : va_D A (((h0, .inr (6, [.ref (b1 0), .ref (b2 0), .ref (b3 0), .ref (b4 0), .null, .null, .null, .null, .null, .null])) :: (([] : va_W) ++ kT cI b1 (sf Z0 5 (-1 : Int32)) ++ kL cI b2 Z0 ++ kL cI b3 Z0 ++ kS cI b4 Z0)) ++ ([(q5, .inr (4, [.null, .null, .null, .null, .int 0, .int 0, .int 0]))] : va_W)) := hD
  have hPc := lastP hP
  have hDc := lastD hD
  have hFc := lastF hD hS hA
  refine va_callv (va_runI (As := []) (rest := [.ref q5, .ref h0]) ⟨hx, hb, hml, hown, hG⟩ (c_X4_init l D cI cZ q5 H.size) (cwI 0 hG (gC g_171) rfl rfl rfl (hG _ g_73) (hG _ g_169) (hG _ g_170) rfl (by decide +kernel) ⟨(Nat.le_of_ble_eq_true rfl), (Nat.le_of_ble_eq_true rfl)⟩) ⟨pre_blind, fun U hU hW => ⟨rfl, pre_of hPc hK hDc hnw hU hW⟩⟩ rfl rfl hl.1 rfl (lv_room (Nat.le_of_ble_eq_true rfl)) dX6_init_53 ⟨(Nat.le_of_ble_eq_true rfl), (Nat.le_of_ble_eq_true rfl)⟩) hS (fun q _ h => hFc q h) hFc (fun b5 t H locs ht hvm hw hB hz1 hk1 hS => ?_)
  subst hw
  obtain ⟨hP1, hD1⟩ := hB
  rw [ht] at hP1
  obtain ⟨hP, hD⟩ := join1 hP hD hk1 hFc hP1 hD1
  clear hPc hDc hFc hk1 hP1 hD1 ht hvm hz1
  have hP : va_P D vwCl ((h0, .inr (6, [.ref (b1 0), .ref (b2 0), .ref (b3 0), .ref (b4 0), .null, .null, .null, .null, .null, .null])) :: (([] : va_W) ++ kT cI b1 (sf Z0 5 (-1 : Int32)) ++ kL cI b2 Z0 ++ kL cI b3 Z0 ++ kS cI b4 Z0 ++ kS cI b5 Z0)) H := hP
  have hD : va_D A ((h0, .inr (6, [.ref (b1 0), .ref (b2 0), .ref (b3 0), .ref (b4 0), .null, .null, .null, .null, .null, .null])) :: (([] : va_W) ++ kT cI b1 (sf Z0 5 (-1 : Int32)) ++ kL cI b2 Z0 ++ kL cI b3 Z0 ++ kS cI b4 Z0 ++ kS cI b5 Z0)) := hD
  refine va_putF (D := D) (ci := 6) (v := .ref (b5 0)) (ty := (.object "SevenBlows$State")) (C := RX6) (T := TX6) (N := 10) (fs := [.ref (b1 0), .ref (b2 0), .ref (b3 0), .ref (b4 0), .null, .null, .null, .null, .null, .null]) hx hb hG inG6 tyX6 tyX6_ok nmX6 hown hK hP hD hS 0 rfl rfl 4 (by decide) (hG _ g_228) (fun _ h9 => h9) rfl hin rfl (by decide +kernel) rfl rfl (Nat.le_of_ble_eq_true rfl) dX6_init_56 (fun H locs hP hD hS => ?_)
  have hP : va_P D vwCl ((h0, .inr (6, [.ref (b1 0), .ref (b2 0), .ref (b3 0), .ref (b4 0), .ref (b5 0), .null, .null, .null, .null, .null])) :: (([] : va_W) ++ kT cI b1 (sf Z0 5 (-1 : Int32)) ++ kL cI b2 Z0 ++ kL cI b3 Z0 ++ kS cI b4 Z0 ++ kS cI b5 Z0)) H := hP
  have hD : va_D A ((h0, .inr (6, [.ref (b1 0), .ref (b2 0), .ref (b3 0), .ref (b4 0), .ref (b5 0), .null, .null, .null, .null, .null])) :: (([] : va_W) ++ kT cI b1 (sf Z0 5 (-1 : Int32)) ++ kL cI b2 Z0 ++ kL cI b3 Z0 ++ kS cI b4 Z0 ++ kS cI b5 Z0)) := hD
  refine lv_aload_n hx hb dX6_init_59 rfl (lv_at hl 0 rfl) ?_
  refine va_new (ci := 4) (fs := [.null, .null, .null, .null, .int 0, .int 0, .int 0]) (C := RX4) (T := TX4) (N := 7) hx hb hG inG4 tyX4 tyX4_ok hown (hG _ g_167) (hG _ g_168) (hG _ g_73) hK hP hD hS hA rfl (fun j hj => by rcases (show j = 0 ∨ j = 1 ∨ j = 2 ∨ j = 3 ∨ j = 4 ∨ j = 5 ∨ j = 6 by omega) with rfl | rfl | rfl | rfl | rfl | rfl | rfl <;> rfl) (Nat.le_of_ble_eq_true rfl) (Nat.le_of_ble_eq_true rfl) dX6_init_60 (fun q6 H hP hD hS => ?_)
  refine lv_dup hx hb dX6_init_63 rfl ?_
  have hP : va_P D vwCl (((h0, .inr (6, [.ref (b1 0), .ref (b2 0), .ref (b3 0), .ref (b4 0), .ref (b5 0), .null, .null, .null, .null, .null])) :: (([] : va_W) ++ kT cI b1 (sf Z0 5 (-1 : Int32)) ++ kL cI b2 Z0 ++ kL cI b3 Z0 ++ kS cI b4 Z0 ++ kS cI b5 Z0)) ++ ([(q6, .inr (4, [.null, .null, .null, .null, .int 0, .int 0, .int 0]))] : va_W)) H := hP
  have hD : va_D A (((h0, .inr (6, [.ref (b1 0), .ref (b2 0), .ref (b3 0), .ref (b4 0), .ref (b5 0), .null, .null, .null, .null, .null])) :: (([] : va_W) ++ kT cI b1 (sf Z0 5 (-1 : Int32)) ++ kL cI b2 Z0 ++ kL cI b3 Z0 ++ kS cI b4 Z0 ++ kS cI b5 Z0)) ++ ([(q6, .inr (4, [.null, .null, .null, .null, .int 0, .int 0, .int 0]))] : va_W)) := hD
  have hPc := lastP hP
  have hDc := lastD hD
  have hFc := lastF hD hS hA
  refine va_callv (va_runI (As := []) (rest := [.ref q6, .ref h0]) ⟨hx, hb, hml, hown, hG⟩ (c_X4_init l D cI cZ q6 H.size) (cwI 0 hG (gC g_171) rfl rfl rfl (hG _ g_73) (hG _ g_169) (hG _ g_170) rfl (by decide +kernel) ⟨(Nat.le_of_ble_eq_true rfl), (Nat.le_of_ble_eq_true rfl)⟩) ⟨pre_blind, fun U hU hW => ⟨rfl, pre_of hPc hK hDc hnw hU hW⟩⟩ rfl rfl hl.1 rfl (lv_room (Nat.le_of_ble_eq_true rfl)) dX6_init_64 ⟨(Nat.le_of_ble_eq_true rfl), (Nat.le_of_ble_eq_true rfl)⟩) hS (fun q _ h => hFc q h) hFc (fun b6 t H locs ht hvm hw hB hz1 hk1 hS => ?_)
  subst hw
  obtain ⟨hP1, hD1⟩ := hB
  rw [ht] at hP1
  obtain ⟨hP, hD⟩ := join1 hP hD hk1 hFc hP1 hD1
  clear hPc hDc hFc hk1 hP1 hD1 ht hvm hz1
  have hP : va_P D vwCl ((h0, .inr (6, [.ref (b1 0), .ref (b2 0), .ref (b3 0), .ref (b4 0), .ref (b5 0), .null, .null, .null, .null, .null])) :: (([] : va_W) ++ kT cI b1 (sf Z0 5 (-1 : Int32)) ++ kL cI b2 Z0 ++ kL cI b3 Z0 ++ kS cI b4 Z0 ++ kS cI b5 Z0 ++ kS cI b6 Z0)) H := hP
  have hD : va_D A ((h0, .inr (6, [.ref (b1 0), .ref (b2 0), .ref (b3 0), .ref (b4 0), .ref (b5 0), .null, .null, .null, .null, .null])) :: (([] : va_W) ++ kT cI b1 (sf Z0 5 (-1 : Int32)) ++ kL cI b2 Z0 ++ kL cI b3 Z0 ++ kS cI b4 Z0 ++ kS cI b5 Z0 ++ kS cI b6 Z0)) := hD
  refine va_putF (D := D) (ci := 6) (v := .ref (b6 0)) (ty := (.object "SevenBlows$State")) (C := RX6) (T := TX6) (N := 10) (fs := [.ref (b1 0), .ref (b2 0), .ref (b3 0), .ref (b4 0), .ref (b5 0), .null, .null, .null, .null, .null]) hx hb hG inG6 tyX6 tyX6_ok nmX6 hown hK hP hD hS 0 rfl rfl 5 (by decide) (hG _ g_229) (fun _ h9 => h9) rfl hin rfl (by decide +kernel) rfl rfl (Nat.le_of_ble_eq_true rfl) dX6_init_67 (fun H locs hP hD hS => ?_)
  have hP : va_P D vwCl ((h0, .inr (6, [.ref (b1 0), .ref (b2 0), .ref (b3 0), .ref (b4 0), .ref (b5 0), .ref (b6 0), .null, .null, .null, .null])) :: (([] : va_W) ++ kT cI b1 (sf Z0 5 (-1 : Int32)) ++ kL cI b2 Z0 ++ kL cI b3 Z0 ++ kS cI b4 Z0 ++ kS cI b5 Z0 ++ kS cI b6 Z0)) H := hP
  have hD : va_D A ((h0, .inr (6, [.ref (b1 0), .ref (b2 0), .ref (b3 0), .ref (b4 0), .ref (b5 0), .ref (b6 0), .null, .null, .null, .null])) :: (([] : va_W) ++ kT cI b1 (sf Z0 5 (-1 : Int32)) ++ kL cI b2 Z0 ++ kL cI b3 Z0 ++ kS cI b4 Z0 ++ kS cI b5 Z0 ++ kS cI b6 Z0)) := hD
  refine lv_aload_n hx hb dX6_init_70 rfl (lv_at hl 0 rfl) ?_
  refine va_new (ci := 1) (fs := [.null, .null, .int 0]) (C := RX1) (T := TX1) (N := 3) hx hb hG inG1 tyX1 tyX1_ok hown (hG _ g_192) (hG _ g_193) (hG _ g_74) hK hP hD hS hA rfl (fun j hj => by rcases (show j = 0 ∨ j = 1 ∨ j = 2 by omega) with rfl | rfl | rfl <;> rfl) (Nat.le_of_ble_eq_true rfl) (Nat.le_of_ble_eq_true rfl) dX6_init_71 (fun q7 H hP hD hS => ?_)
  refine lv_dup hx hb dX6_init_74 rfl ?_
  have hP : va_P D vwCl (((h0, .inr (6, [.ref (b1 0), .ref (b2 0), .ref (b3 0), .ref (b4 0), .ref (b5 0), .ref (b6 0), .null, .null, .null, .null])) :: (([] : va_W) ++ kT cI b1 (sf Z0 5 (-1 : Int32)) ++ kL cI b2 Z0 ++ kL cI b3 Z0 ++ kS cI b4 Z0 ++ kS cI b5 Z0 ++ kS cI b6 Z0)) ++ ([(q7, .inr (1, [.null, .null, .int 0]))] : va_W)) H := hP
  have hD : va_D A (((h0, .inr (6, [.ref (b1 0), .ref (b2 0), .ref (b3 0), .ref (b4 0), .ref (b5 0), .ref (b6 0), .null, .null, .null, .null])) :: (([] : va_W) ++ kT cI b1 (sf Z0 5 (-1 : Int32)) ++ kL cI b2 Z0 ++ kL cI b3 Z0 ++ kS cI b4 Z0 ++ kS cI b5 Z0 ++ kS cI b6 Z0)) ++ ([(q7, .inr (1, [.null, .null, .int 0]))] : va_W)) := hD
  have hPc := lastP hP
  have hDc := lastD hD
  have hFc := lastF hD hS hA
  refine va_callv (va_runI (As := []) (rest := [.ref q7, .ref h0]) ⟨hx, hb, hml, hown, hG⟩ (c_X1_init l D cI cZ q7 H.size) (cwI 0 hG (gC g_196) rfl rfl rfl (hG _ g_74) (hG _ g_194) (hG _ g_195) rfl (by decide +kernel) ⟨(Nat.le_of_ble_eq_true rfl), (Nat.le_of_ble_eq_true rfl)⟩) ⟨pre_blind, fun U hU hW => ⟨rfl, pre_of hPc hK hDc hnw hU hW⟩⟩ rfl rfl hl.1 rfl (lv_room (Nat.le_of_ble_eq_true rfl)) dX6_init_75 ⟨(Nat.le_of_ble_eq_true rfl), (Nat.le_of_ble_eq_true rfl)⟩) hS (fun q _ h => hFc q h) hFc (fun b7 t H locs ht hvm hw hB hz1 hk1 hS => ?_)
  subst hw
  obtain ⟨hP1, hD1⟩ := hB
  rw [ht] at hP1
  obtain ⟨hP, hD⟩ := join1 hP hD hk1 hFc hP1 hD1
  clear hPc hDc hFc hk1 hP1 hD1 ht hvm hz1
  have hP : va_P D vwCl ((h0, .inr (6, [.ref (b1 0), .ref (b2 0), .ref (b3 0), .ref (b4 0), .ref (b5 0), .ref (b6 0), .null, .null, .null, .null])) :: (([] : va_W) ++ kT cI b1 (sf Z0 5 (-1 : Int32)) ++ kL cI b2 Z0 ++ kL cI b3 Z0 ++ kS cI b4 Z0 ++ kS cI b5 Z0 ++ kS cI b6 Z0 ++ kB cI b7 Z0)) H := hP
  have hD : va_D A ((h0, .inr (6, [.ref (b1 0), .ref (b2 0), .ref (b3 0), .ref (b4 0), .ref (b5 0), .ref (b6 0), .null, .null, .null, .null])) :: (([] : va_W) ++ kT cI b1 (sf Z0 5 (-1 : Int32)) ++ kL cI b2 Z0 ++ kL cI b3 Z0 ++ kS cI b4 Z0 ++ kS cI b5 Z0 ++ kS cI b6 Z0 ++ kB cI b7 Z0)) := hD
  refine va_putF (D := D) (ci := 6) (v := .ref (b7 0)) (ty := (.object "SevenBlows$Book")) (C := RX6) (T := TX6) (N := 10) (fs := [.ref (b1 0), .ref (b2 0), .ref (b3 0), .ref (b4 0), .ref (b5 0), .ref (b6 0), .null, .null, .null, .null]) hx hb hG inG6 tyX6 tyX6_ok nmX6 hown hK hP hD hS 0 rfl rfl 6 (by decide) (hG _ g_230) (fun _ h9 => h9) rfl hin rfl (by decide +kernel) rfl rfl (Nat.le_of_ble_eq_true rfl) dX6_init_78 (fun H locs hP hD hS => ?_)
  have hP : va_P D vwCl ((h0, .inr (6, [.ref (b1 0), .ref (b2 0), .ref (b3 0), .ref (b4 0), .ref (b5 0), .ref (b6 0), .ref (b7 0), .null, .null, .null])) :: (([] : va_W) ++ kT cI b1 (sf Z0 5 (-1 : Int32)) ++ kL cI b2 Z0 ++ kL cI b3 Z0 ++ kS cI b4 Z0 ++ kS cI b5 Z0 ++ kS cI b6 Z0 ++ kB cI b7 Z0)) H := hP
  have hD : va_D A ((h0, .inr (6, [.ref (b1 0), .ref (b2 0), .ref (b3 0), .ref (b4 0), .ref (b5 0), .ref (b6 0), .ref (b7 0), .null, .null, .null])) :: (([] : va_W) ++ kT cI b1 (sf Z0 5 (-1 : Int32)) ++ kL cI b2 Z0 ++ kL cI b3 Z0 ++ kS cI b4 Z0 ++ kS cI b5 Z0 ++ kS cI b6 Z0 ++ kB cI b7 Z0)) := hD
  refine lv_aload_n hx hb dX6_init_81 rfl (lv_at hl 0 rfl) ?_
  refine va_new (ci := 3) (fs := [.null, .null, .int 0, .int 0]) (C := RX3) (T := TX3) (N := 4) hx hb hG inG3 tyX3 tyX3_ok hown (hG _ g_202) (hG _ g_203) (hG _ g_75) hK hP hD hS hA rfl (fun j hj => by rcases (show j = 0 ∨ j = 1 ∨ j = 2 ∨ j = 3 by omega) with rfl | rfl | rfl | rfl <;> rfl) (Nat.le_of_ble_eq_true rfl) (Nat.le_of_ble_eq_true rfl) dX6_init_82 (fun q8 H hP hD hS => ?_)
  refine lv_dup hx hb dX6_init_85 rfl ?_
  have hP : va_P D vwCl (((h0, .inr (6, [.ref (b1 0), .ref (b2 0), .ref (b3 0), .ref (b4 0), .ref (b5 0), .ref (b6 0), .ref (b7 0), .null, .null, .null])) :: (([] : va_W) ++ kT cI b1 (sf Z0 5 (-1 : Int32)) ++ kL cI b2 Z0 ++ kL cI b3 Z0 ++ kS cI b4 Z0 ++ kS cI b5 Z0 ++ kS cI b6 Z0 ++ kB cI b7 Z0)) ++ ([(q8, .inr (3, [.null, .null, .int 0, .int 0]))] : va_W)) H := hP
  have hD : va_D A (((h0, .inr (6, [.ref (b1 0), .ref (b2 0), .ref (b3 0), .ref (b4 0), .ref (b5 0), .ref (b6 0), .ref (b7 0), .null, .null, .null])) :: (([] : va_W) ++ kT cI b1 (sf Z0 5 (-1 : Int32)) ++ kL cI b2 Z0 ++ kL cI b3 Z0 ++ kS cI b4 Z0 ++ kS cI b5 Z0 ++ kS cI b6 Z0 ++ kB cI b7 Z0)) ++ ([(q8, .inr (3, [.null, .null, .int 0, .int 0]))] : va_W)) := hD
  have hPc := lastP hP
  have hDc := lastD hD
  have hFc := lastF hD hS hA
  refine va_callv (va_runI (As := []) (rest := [.ref q8, .ref h0]) ⟨hx, hb, hml, hown, hG⟩ (c_X3_init l D cI cZ q8 H.size) (cwI 0 hG (gC g_206) rfl rfl rfl (hG _ g_75) (hG _ g_204) (hG _ g_205) rfl (by decide +kernel) ⟨(Nat.le_of_ble_eq_true rfl), (Nat.le_of_ble_eq_true rfl)⟩) ⟨pre_blind, fun U hU hW => ⟨rfl, pre_of hPc hK hDc hnw hU hW⟩⟩ rfl rfl hl.1 rfl (lv_room (Nat.le_of_ble_eq_true rfl)) dX6_init_86 ⟨(Nat.le_of_ble_eq_true rfl), (Nat.le_of_ble_eq_true rfl)⟩) hS (fun q _ h => hFc q h) hFc (fun b8 t H locs ht hvm hw hB hz1 hk1 hS => ?_)
  subst hw
  obtain ⟨hP1, hD1⟩ := hB
  rw [ht] at hP1
  obtain ⟨hP, hD⟩ := join1 hP hD hk1 hFc hP1 hD1
  clear hPc hDc hFc hk1 hP1 hD1 ht hvm hz1
  have hP : va_P D vwCl ((h0, .inr (6, [.ref (b1 0), .ref (b2 0), .ref (b3 0), .ref (b4 0), .ref (b5 0), .ref (b6 0), .ref (b7 0), .null, .null, .null])) :: (([] : va_W) ++ kT cI b1 (sf Z0 5 (-1 : Int32)) ++ kL cI b2 Z0 ++ kL cI b3 Z0 ++ kS cI b4 Z0 ++ kS cI b5 Z0 ++ kS cI b6 Z0 ++ kB cI b7 Z0 ++ kP cI b8 Z0)) H := hP
  have hD : va_D A ((h0, .inr (6, [.ref (b1 0), .ref (b2 0), .ref (b3 0), .ref (b4 0), .ref (b5 0), .ref (b6 0), .ref (b7 0), .null, .null, .null])) :: (([] : va_W) ++ kT cI b1 (sf Z0 5 (-1 : Int32)) ++ kL cI b2 Z0 ++ kL cI b3 Z0 ++ kS cI b4 Z0 ++ kS cI b5 Z0 ++ kS cI b6 Z0 ++ kB cI b7 Z0 ++ kP cI b8 Z0)) := hD
  refine va_putF (D := D) (ci := 6) (v := .ref (b8 0)) (ty := (.object "SevenBlows$Planner")) (C := RX6) (T := TX6) (N := 10) (fs := [.ref (b1 0), .ref (b2 0), .ref (b3 0), .ref (b4 0), .ref (b5 0), .ref (b6 0), .ref (b7 0), .null, .null, .null]) hx hb hG inG6 tyX6 tyX6_ok nmX6 hown hK hP hD hS 0 rfl rfl 7 (by decide) (hG _ g_231) (fun _ h9 => h9) rfl hin rfl (by decide +kernel) rfl rfl (Nat.le_of_ble_eq_true rfl) dX6_init_89 (fun H locs hP hD hS => ?_)
  have hP : va_P D vwCl ((h0, .inr (6, [.ref (b1 0), .ref (b2 0), .ref (b3 0), .ref (b4 0), .ref (b5 0), .ref (b6 0), .ref (b7 0), .ref (b8 0), .null, .null])) :: (([] : va_W) ++ kT cI b1 (sf Z0 5 (-1 : Int32)) ++ kL cI b2 Z0 ++ kL cI b3 Z0 ++ kS cI b4 Z0 ++ kS cI b5 Z0 ++ kS cI b6 Z0 ++ kB cI b7 Z0 ++ kP cI b8 Z0)) H := hP
  have hD : va_D A ((h0, .inr (6, [.ref (b1 0), .ref (b2 0), .ref (b3 0), .ref (b4 0), .ref (b5 0), .ref (b6 0), .ref (b7 0), .ref (b8 0), .null, .null])) :: (([] : va_W) ++ kT cI b1 (sf Z0 5 (-1 : Int32)) ++ kL cI b2 Z0 ++ kL cI b3 Z0 ++ kS cI b4 Z0 ++ kS cI b5 Z0 ++ kS cI b6 Z0 ++ kB cI b7 Z0 ++ kP cI b8 Z0)) := hD
  refine lv_aload_n hx hb dX6_init_92 rfl (lv_at hl 0 rfl) ?_
  refine va_new (ci := 0) (fs := [.null, .null]) (C := RX0) (T := TX0) (N := 2) hx hb hG inG0 tyX0 tyX0_ok hown (hG _ g_215) (hG _ g_216) (hG _ g_76) hK hP hD hS hA rfl (fun j hj => by rcases (show j = 0 ∨ j = 1 by omega) with rfl | rfl <;> rfl) (Nat.le_of_ble_eq_true rfl) (Nat.le_of_ble_eq_true rfl) dX6_init_93 (fun q9 H hP hD hS => ?_)
  refine lv_dup hx hb dX6_init_96 rfl ?_
  have hP : va_P D vwCl (((h0, .inr (6, [.ref (b1 0), .ref (b2 0), .ref (b3 0), .ref (b4 0), .ref (b5 0), .ref (b6 0), .ref (b7 0), .ref (b8 0), .null, .null])) :: (([] : va_W) ++ kT cI b1 (sf Z0 5 (-1 : Int32)) ++ kL cI b2 Z0 ++ kL cI b3 Z0 ++ kS cI b4 Z0 ++ kS cI b5 Z0 ++ kS cI b6 Z0 ++ kB cI b7 Z0 ++ kP cI b8 Z0)) ++ ([(q9, .inr (0, [.null, .null]))] : va_W)) H := hP
  have hD : va_D A (((h0, .inr (6, [.ref (b1 0), .ref (b2 0), .ref (b3 0), .ref (b4 0), .ref (b5 0), .ref (b6 0), .ref (b7 0), .ref (b8 0), .null, .null])) :: (([] : va_W) ++ kT cI b1 (sf Z0 5 (-1 : Int32)) ++ kL cI b2 Z0 ++ kL cI b3 Z0 ++ kS cI b4 Z0 ++ kS cI b5 Z0 ++ kS cI b6 Z0 ++ kB cI b7 Z0 ++ kP cI b8 Z0)) ++ ([(q9, .inr (0, [.null, .null]))] : va_W)) := hD
  have hPc := lastP hP
  have hDc := lastD hD
  have hFc := lastF hD hS hA
  refine va_callv (va_runI (As := []) (rest := [.ref q9, .ref h0]) ⟨hx, hb, hml, hown, hG⟩ (c_X0_init l D cI cZ q9 H.size) (cwI 0 hG (gC g_219) rfl rfl rfl (hG _ g_76) (hG _ g_217) (hG _ g_218) rfl (by decide +kernel) ⟨(Nat.le_of_ble_eq_true rfl), (Nat.le_of_ble_eq_true rfl)⟩) ⟨pre_blind, fun U hU hW => ⟨rfl, pre_of hPc hK hDc hnw hU hW⟩⟩ rfl rfl hl.1 rfl (lv_room (Nat.le_of_ble_eq_true rfl)) dX6_init_97 ⟨(Nat.le_of_ble_eq_true rfl), (Nat.le_of_ble_eq_true rfl)⟩) hS (fun q _ h => hFc q h) hFc (fun b9 t H locs ht hvm hw hB hz1 hk1 hS => ?_)
  subst hw
  obtain ⟨hP1, hD1⟩ := hB
  rw [ht] at hP1
  obtain ⟨hP, hD⟩ := join1 hP hD hk1 hFc hP1 hD1
  clear hPc hDc hFc hk1 hP1 hD1 ht hvm hz1
  have hP : va_P D vwCl ((h0, .inr (6, [.ref (b1 0), .ref (b2 0), .ref (b3 0), .ref (b4 0), .ref (b5 0), .ref (b6 0), .ref (b7 0), .ref (b8 0), .null, .null])) :: (([] : va_W) ++ kT cI b1 (sf Z0 5 (-1 : Int32)) ++ kL cI b2 Z0 ++ kL cI b3 Z0 ++ kS cI b4 Z0 ++ kS cI b5 Z0 ++ kS cI b6 Z0 ++ kB cI b7 Z0 ++ kP cI b8 Z0 ++ kW cI b9 Z0)) H := hP
  have hD : va_D A ((h0, .inr (6, [.ref (b1 0), .ref (b2 0), .ref (b3 0), .ref (b4 0), .ref (b5 0), .ref (b6 0), .ref (b7 0), .ref (b8 0), .null, .null])) :: (([] : va_W) ++ kT cI b1 (sf Z0 5 (-1 : Int32)) ++ kL cI b2 Z0 ++ kL cI b3 Z0 ++ kS cI b4 Z0 ++ kS cI b5 Z0 ++ kS cI b6 Z0 ++ kB cI b7 Z0 ++ kP cI b8 Z0 ++ kW cI b9 Z0)) := hD
  refine va_putF (D := D) (ci := 6) (v := .ref (b9 0)) (ty := (.object "SevenBlows$BeltWriter")) (C := RX6) (T := TX6) (N := 10) (fs := [.ref (b1 0), .ref (b2 0), .ref (b3 0), .ref (b4 0), .ref (b5 0), .ref (b6 0), .ref (b7 0), .ref (b8 0), .null, .null]) hx hb hG inG6 tyX6 tyX6_ok nmX6 hown hK hP hD hS 0 rfl rfl 8 (by decide) (hG _ g_232) (fun _ h9 => h9) rfl hin rfl (by decide +kernel) rfl rfl (Nat.le_of_ble_eq_true rfl) dX6_init_100 (fun H locs hP hD hS => ?_)
  have hP : va_P D vwCl ((h0, .inr (6, [.ref (b1 0), .ref (b2 0), .ref (b3 0), .ref (b4 0), .ref (b5 0), .ref (b6 0), .ref (b7 0), .ref (b8 0), .ref (b9 0), .null])) :: (([] : va_W) ++ kT cI b1 (sf Z0 5 (-1 : Int32)) ++ kL cI b2 Z0 ++ kL cI b3 Z0 ++ kS cI b4 Z0 ++ kS cI b5 Z0 ++ kS cI b6 Z0 ++ kB cI b7 Z0 ++ kP cI b8 Z0 ++ kW cI b9 Z0)) H := hP
  have hD : va_D A ((h0, .inr (6, [.ref (b1 0), .ref (b2 0), .ref (b3 0), .ref (b4 0), .ref (b5 0), .ref (b6 0), .ref (b7 0), .ref (b8 0), .ref (b9 0), .null])) :: (([] : va_W) ++ kT cI b1 (sf Z0 5 (-1 : Int32)) ++ kL cI b2 Z0 ++ kL cI b3 Z0 ++ kS cI b4 Z0 ++ kS cI b5 Z0 ++ kS cI b6 Z0 ++ kB cI b7 Z0 ++ kP cI b8 Z0 ++ kW cI b9 Z0)) := hD
  refine lv_aload_n hx hb dX6_init_103 rfl (lv_at hl 0 rfl) ?_
  refine lv_bipush (v := (6 : Int32)) hx hb dX6_init_104 (by decide) ?_
  refine va_newI hx hb (hG _ g_101) hK hP hD hS hA 6 (by decide) (by decide) (Nat.le_of_ble_eq_true rfl) (Nat.le_of_ble_eq_true rfl) (Nat.le_of_ble_eq_true rfl) dX6_init_106 (fun q10 H hP hD hS => ?_)
  have hP : va_P D vwCl ((h0, .inr (6, [.ref (b1 0), .ref (b2 0), .ref (b3 0), .ref (b4 0), .ref (b5 0), .ref (b6 0), .ref (b7 0), .ref (b8 0), .ref (b9 0), .null])) :: (([] : va_W) ++ kT cI b1 (sf Z0 5 (-1 : Int32)) ++ kL cI b2 Z0 ++ kL cI b3 Z0 ++ kS cI b4 Z0 ++ kS cI b5 Z0 ++ kS cI b6 Z0 ++ kB cI b7 Z0 ++ kP cI b8 Z0 ++ kW cI b9 Z0 ++ [(q10, .inl (cI, 6, .inl (fun _ => 0)))])) H := hP
  have hD : va_D A ((h0, .inr (6, [.ref (b1 0), .ref (b2 0), .ref (b3 0), .ref (b4 0), .ref (b5 0), .ref (b6 0), .ref (b7 0), .ref (b8 0), .ref (b9 0), .null])) :: (([] : va_W) ++ kT cI b1 (sf Z0 5 (-1 : Int32)) ++ kL cI b2 Z0 ++ kL cI b3 Z0 ++ kS cI b4 Z0 ++ kS cI b5 Z0 ++ kS cI b6 Z0 ++ kB cI b7 Z0 ++ kP cI b8 Z0 ++ kW cI b9 Z0 ++ [(q10, .inl (cI, 6, .inl (fun _ => 0)))])) := hD
  refine va_putF (D := D) (ci := 6) (v := .ref q10) (ty := (.array .int)) (C := RX6) (T := TX6) (N := 10) (fs := [.ref (b1 0), .ref (b2 0), .ref (b3 0), .ref (b4 0), .ref (b5 0), .ref (b6 0), .ref (b7 0), .ref (b8 0), .ref (b9 0), .null]) hx hb hG inG6 tyX6 tyX6_ok nmX6 hown hK hP hD hS 0 rfl rfl 9 (by decide) (hG _ g_233) (fun _ h9 => h9) rfl hin rfl (by decide +kernel) rfl rfl (Nat.le_of_ble_eq_true rfl) dX6_init_108 (fun H locs hP hD hS => ?_)
  have hP : va_P D vwCl ((h0, .inr (6, [.ref (b1 0), .ref (b2 0), .ref (b3 0), .ref (b4 0), .ref (b5 0), .ref (b6 0), .ref (b7 0), .ref (b8 0), .ref (b9 0), .ref q10])) :: (([] : va_W) ++ kT cI b1 (sf Z0 5 (-1 : Int32)) ++ kL cI b2 Z0 ++ kL cI b3 Z0 ++ kS cI b4 Z0 ++ kS cI b5 Z0 ++ kS cI b6 Z0 ++ kB cI b7 Z0 ++ kP cI b8 Z0 ++ kW cI b9 Z0 ++ [(q10, .inl (cI, 6, .inl (fun _ => 0)))])) H := hP
  have hD : va_D A ((h0, .inr (6, [.ref (b1 0), .ref (b2 0), .ref (b3 0), .ref (b4 0), .ref (b5 0), .ref (b6 0), .ref (b7 0), .ref (b8 0), .ref (b9 0), .ref q10])) :: (([] : va_W) ++ kT cI b1 (sf Z0 5 (-1 : Int32)) ++ kL cI b2 Z0 ++ kL cI b3 Z0 ++ kS cI b4 Z0 ++ kS cI b5 Z0 ++ kS cI b6 Z0 ++ kB cI b7 Z0 ++ kP cI b8 Z0 ++ kW cI b9 Z0 ++ [(q10, .inl (cI, 6, .inl (fun _ => 0)))])) := hD
  have hP9 := subP (wc := cW cI (ofA [ofL [h0, q10], b1, b2, b3, b4, b5, b6, b7, b8, b9]) C0) [0, 53, 1, 2, 3, 4, 5, 6, 7, 8, 9, 10, 11, 12, 13, 14, 15, 16, 17, 18, 19, 20, 21, 22, 23, 24, 25, 26, 27, 28, 29, 30, 31, 32, 33, 34, 35, 36, 37, 38, 39, 40, 41, 42, 43, 44, 45, 46, 47, 48, 49, 50, 51, 52] rfl hP
  have hD9 := va_D.sub (ws' := cW cI (ofA [ofL [h0, q10], b1, b2, b3, b4, b5, b6, b7, b8, b9]) C0) hD [0, 53, 1, 2, 3, 4, 5, 6, 7, 8, 9, 10, 11, 12, 13, 14, 15, 16, 17, 18, 19, 20, 21, 22, 23, 24, 25, 26, 27, 28, 29, 30, 31, 32, 33, 34, 35, 36, 37, 38, 39, 40, 41, 42, 43, 44, 45, 46, 47, 48, 49, 50, 51, 52] (by decide +kernel) rfl
  exact W.vret hx hb hr (fun t ht hW => ⟨⟨(ofA [ofL [h0, q10], b1, b2, b3, b4, b5, b6, b7, b8, b9]), rfl, rfl, by rw [ht]; exact hP9, hD9⟩, hS.F ht⟩) hS.2.2 dX6_init_111
