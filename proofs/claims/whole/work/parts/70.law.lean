/-! THE CLAIM OUT OF ONE WALK OF THE LAW'S BODY. Your part is whole_start (and what it stands on); all else here is the same for every law, but numbers. -/
def R_law : String := "SevenBlowsLaw"
def lw_P (b : Addr) (xs : List Int32) (args : Array Value) (s : State) : Prop := args = #[.ref b] ∧ s.IntsAt b xs ∧ xs.length ≤ 2048 ∧ (Jvm.Cond.and given_1 narrow_1).before args s = true
def lw_Q (_ : Array Value) (s : State) (o : Outcome) (t : State) : Prop := o = .returned (some (.int 1)) ∧ Framed s o t [] 72 1324
def lw_Z (below : List Frame) (a : Array Value) (s : State) : State → Prop := fun t => ∃ o, t.status = .running ∧ Ended t below o ∧ lw_Q a s o t
/-- the law's own end, with 1 on the stack, nothing written that was there before, its room as the claim has it -/
theorem lw_ret {p : Program} {l : Launch} {e : Env} {s : State} {m : MethodId} {below : List Frame} {meth : Method} {c : Code} {b : Nat} (hx : p.tables.exec = Jvm.exec) (hb : c.code = code) (hr : meth.sig.returnType = ret) (hlocks : meth.locks = false) {pc : Nat} {H : Heap} {ls : Array Slot} (hdg : decode code pc = .ok (.ireturn, 1)) : W p l e room_1 s m #[Value.ref b] below meth c H [] 72 1324 (lw_Z below #[Value.ref b] s) (F0 m pc ls [.int 1]) := by
  intro T hT X
  obtain ⟨fs, hret, hrun, hended, hW, hframe⟩ := X.leave (v := some (.int 1)) (hlocks := hlocks) (fun h => by rw [hr] at h; cases h)
  have hmeth' : T.vm.method? m = some meth := X.method'
  refine ⟨T.setFrames fs, ?_, .returned (some (.int 1)), hrun, hended, rfl, ⟨_, rfl⟩, hW, hframe⟩
  jvm_step X.here [X.here.top, hx, hb, hdg, hmeth', hr, ret, narrow_b1]
  (try refine ⟨rfl, ?_⟩); (try refine ⟨rfl, ?_⟩)
  first | (intro acts; rw [hret _ acts rfl rfl rfl]) | rw [hret _ _ rfl rfl rfl]
  exact Steps.refl _
/-- what holds at the law's entry: the machine, the code, the tables' words (any of lw_tbl by 'hts w (by decide +kernel)'), the script of L ints xs at the cell b, what the Statement gives of the start (any of its parts by flat_of_before) -/
def lw_At (p : Program) (s : State) (m : MethodId) (meth : Method) (c : Code) (b L : Nat) (xs : Nat → Int32) : Prop :=
  p.tables.exec = Jvm.exec ∧ c.code = code ∧ meth.sig.returnType = ret ∧ c.maxLocals = 4 ∧ s.vm.findClass R_law = some m.cls ∧ (∀ w ∈ lw_tbl, w.before #[Value.ref b] s = true) ∧ va_X b L xs s s.heap ∧ b < s.heap.size ∧ meth.locks = false ∧ (Jvm.Cond.and given_1 narrow_1).before #[Value.ref b] s = true
theorem app_l {α : Type} {a b : List α} {k : Nat} {q : α} (h : a[k]? = some q) : (a ++ b)[k]? = some q := by rw [List.getElem?_append_left (List.getElem?_eq_some_iff.mp h).1]; exact h
theorem app_r {α : Type} {a b : List α} {k : Nat} {q : α} (h : b[k]? = some q) : (a ++ b)[a.length + k]? = some q := by rw [List.getElem?_append_right (by omega)]; rw [show a.length + k - a.length = k by omega]; exact h
theorem app_s {α : Type} {a b : List α} {k : Nat} {q : α} (h : (a ++ b)[k]? = some q) : a[k]? = some q ∨ (a.length ≤ k ∧ b[k - a.length]? = some q) := by
  by_cases hk : k < a.length
  · rw [List.getElem?_append_left hk] at h; exact Or.inl h
  · rw [List.getElem?_append_right (by omega)] at h; exact Or.inr ⟨by omega, h⟩
theorem leftP {D : va_G} {cl : List vw_C} {wx wy : va_W} {H : Heap} (h : va_P D cl (wx ++ wy) H) : va_P D cl wx H := fun k q hk => h k q (app_l hk)
theorem rightP {D : va_G} {cl : List vw_C} {wx wy : va_W} {H : Heap} (h : va_P D cl (wx ++ wy) H) : va_P D cl wy H := fun k q hk => h _ q (app_r hk)
theorem leftD {A : Nat → Prop} {wx wy : va_W} (h : va_D A (wx ++ wy)) : va_D A wx := ⟨fun i j p q hi hj e => h.1 i j p q (app_l hi) (app_l hj) e, fun k q hk => h.2 k q (app_l hk)⟩
theorem rightD {A : Nat → Prop} {wx wy : va_W} (h : va_D A (wx ++ wy)) : va_D A wy := ⟨fun i j p q hi hj e => by have := h.1 _ _ p q (app_r hi) (app_r hj) e; omega, fun k q hk => h.2 _ q (app_r hk)⟩
theorem aparts {A0 : Nat → Prop} {D : va_G} {cl : List vw_C} {wx wy : va_W} {H : Heap} (hP : va_P D cl wy H) (hx : ∀ (i j : Nat) (p q : Nat × va_E), wx[i]? = some p → wy[j]? = some q → p.1 ≠ q.1) : ∀ (k : Nat) (q : Nat × va_E), wy[k]? = some q → q.1 < H.size ∧ ¬ va_A wx H.size q.1 := by
  intro k q h
  have hl := (hP k q h).lt
  refine ⟨hl, fun hh => ?_⟩
  rcases hh with ⟨k2, e, h2⟩ | h2
  · exact hx k2 k (q.1, e) q h2 h rfl
  · omega
theorem crossLR {A : Nat → Prop} {wx wy : va_W} (h : va_D A (wx ++ wy)) : ∀ (i j : Nat) (p q : Nat × va_E), wx[i]? = some p → wy[j]? = some q → p.1 ≠ q.1 := fun i j p q hi hj e => by
  have := h.1 _ _ p q (app_l hi) (app_r hj) e
  have := (List.getElem?_eq_some_iff.mp hi).1
  omega
theorem joinL {A0 : Nat → Prop} {D : va_G} {cl : List vw_C} {wx wy w1 : va_W} {H H1 : Heap} (hP : va_P D cl (wx ++ wy) H) (hD : va_D A0 (wx ++ wy))
    (hk : ∀ q : Nat, q < H.size → ¬ va_A wx H.size q → H1[q]? = H[q]?) (hF : ∀ q, va_A wx H.size q → A0 q) (hP1 : va_P D cl w1 H1) (hD1 : va_D (va_A wx H.size) w1) : va_P D cl (w1 ++ wy) H1 ∧ va_D A0 (w1 ++ wy) := by
  have ap := aparts (A0 := A0) (rightP hP) (crossLR hD)
  refine ⟨fun k q h => ?_, ⟨fun i j p q hi hj e => ?_, fun k q h => ?_⟩⟩
  · rcases app_s h with h | ⟨-, h⟩
    · exact hP1 _ q h
    · exact (rightP hP _ q h).kept (hk q.1 (ap _ q h).1 (ap _ q h).2)
  · rcases app_s hi with h1 | ⟨l1, h1⟩ <;> rcases app_s hj with h2 | ⟨l2, h2⟩
    · exact hD1.1 i j p q h1 h2 e
    · exact absurd (e ▸ hD1.2 _ p h1) (ap _ q h2).2
    · exact absurd (e ▸ hD1.2 _ q h2) (ap _ p h1).2
    · have := (rightD hD).1 _ _ p q h1 h2 e
      omega
  · rcases app_s h with h | ⟨-, h⟩
    · exact hF _ (hD1.2 _ q h)
    · exact (rightD hD).2 _ q h
theorem joinR {A0 : Nat → Prop} {D : va_G} {cl : List vw_C} {wx wy w1 : va_W} {H H1 : Heap} (hP : va_P D cl (wx ++ wy) H) (hD : va_D A0 (wx ++ wy))
    (hk : ∀ q : Nat, q < H.size → ¬ va_A wy H.size q → H1[q]? = H[q]?) (hF : ∀ q, va_A wy H.size q → A0 q) (hP1 : va_P D cl w1 H1) (hD1 : va_D (va_A wy H.size) w1) : va_P D cl (wx ++ w1) H1 ∧ va_D A0 (wx ++ w1) := by
  have ap := aparts (A0 := A0) (leftP hP) (fun i j p q hi hj e => crossLR hD j i q p hj hi e.symm)
  refine ⟨fun k q h => ?_, ⟨fun i j p q hi hj e => ?_, fun k q h => ?_⟩⟩
  · rcases app_s h with h | ⟨-, h⟩
    · exact (leftP hP _ q h).kept (hk q.1 (ap _ q h).1 (ap _ q h).2)
    · exact hP1 _ q h
  · rcases app_s hi with h1 | ⟨l1, h1⟩ <;> rcases app_s hj with h2 | ⟨l2, h2⟩
    · exact (leftD hD).1 i j p q h1 h2 e
    · exact absurd (e ▸ hD1.2 _ q h2) (ap _ p h1).2
    · exact absurd (e ▸ hD1.2 _ p h1) (ap _ q h2).2
    · have := hD1.1 _ _ p q h1 h2 e
      omega
  · rcases app_s h with h | ⟨-, h⟩
    · exact (leftD hD).2 _ q h
    · exact hF _ (hD1.2 _ q h)

set_option maxHeartbeats 4000000 in
set_option maxRecDepth 100000 in
theorem law_case_0 {p : Program} {l : Launch} {e : Env} {s : State} {m : MethodId} {below : List Frame} {meth : Method} {c : Code} {D : va_G} {cI cZ : ClassId} {b L : Nat} {xs : Nat → Int32} (C0 : lw_At p s m meth c b L xs) (hK : va_K D vwCl (TY cI cZ) s) (hnw : nwA s) {am : Nat → Nat} {i : Int32} (h1 : vp_in (i + 1) L) (h2 : vp_in (i + 2) L) (h3 : vp_in (i + 3) L) (a : Nat → Nat → Nat) (C : CC) (M : HC) (hR : Rel C M) (K : ∀ (a : Nat → Nat → Nat) (C : CC) (M : HC) (H : Heap) (locs : List Loc) (ls : Array Slot), Rel C M → va_P D vwCl (cW cI a C ++ kM cI cZ am M) H → va_D (fun q : Nat => s.heap.size ≤ q) (cW cI a C ++ kM cI cZ am M) → va_S (fun q : Nat => s.heap.size ≤ q) s.heap H locs → lv_has ls 4 [(0, .ref b), (1, .ref (a 0 0)), (2, .ref (am 0)), (3, .int i)] → W p l e room_1 s m #[Value.ref b] below meth c H locs 72 1324 (lw_Z below #[Value.ref b] s) (F0 m 991 ls [])) (H : Heap) (locs : List Loc) (ls : Array Slot) (hP : va_P D vwCl (cW cI a C ++ kM cI cZ am M) H) (hD : va_D (fun q : Nat => s.heap.size ≤ q) (cW cI a C ++ kM cI cZ am M)) (hS : va_S (fun q : Nat => s.heap.size ≤ q) s.heap H locs) (hl : lv_has ls 4 [(0, .ref b), (1, .ref (a 0 0)), (2, .ref (am 0)), (3, .int i)]) : W p l e room_1 s m #[Value.ref b] below meth c H locs 72 1324 (lw_Z below #[Value.ref b] s) (F0 m 164 ls []) := by
  obtain ⟨hx, hb, hr, hml, hown, hts, hX, hbl, hlocks, hgv⟩ := C0
  have hA : ∀ q : Nat, s.heap.size ≤ q → (fun q : Nat => s.heap.size ≤ q) q := fun _ h => h
  have hbA : ¬ (fun q : Nat => s.heap.size ≤ q) b := Nat.not_le.mpr hbl
  have hG : ∀ w ∈ GW, w.before #[Value.ref b] s = true := fun w h => hts w (GW_sub w h)
  obtain ⟨v, C2, M2, f6, f7, hR2⟩ := op_feed hR (xs (Int32.toNatClampNeg (i + (1 : Int32))))
  refine lv_aload_n hx hb dL_law_164 rfl (lv_at hl 1 rfl) ?_
  refine lv_aload_n hx hb dL_law_165 rfl (lv_at hl 0 rfl) ?_
  refine lv_iload_n hx hb dL_law_166 rfl (lv_at hl 3 rfl) ?_
  refine lv_iconst (v := (1 : Int32)) hx hb dL_law_167 (by decide) ?_
  refine lv_iadd hx hb dL_law_168 ?_
  refine va_sld hx hb hX hbl hbA hS h1 dL_law_169 ?_
  have hPc := leftP hP
  have hDc := leftD hD
  have hFc := freeS hDc hS hA
  refine va_calli (va_runV (As := [.int (xs (Int32.toNatClampNeg (i + (1 : Int32))))]) (rest := []) ⟨hx, hb, hml, hown, hG⟩ (c_X6_feed l D cI cZ a C (xs (Int32.toNatClampNeg (i + (1 : Int32)))) H.size f6) (cwV 1 hG (gV g_234 g_235 g_236 g_70 g_237) rfl rfl rfl (by decide +kernel) ⟨Nat.le_of_ble_eq_true rfl, Nat.le_of_ble_eq_true rfl⟩) ⟨pre_blind, va_recv hK hPc (ci := 6) (q0 := 0) rfl rfl, fun U hU hW => ⟨rfl, pre_of hPc hK hDc hnw hU hW⟩⟩ rfl rfl hl.1 rfl (lv_room (Nat.le_of_ble_eq_true rfl)) dL_law_170 ⟨Nat.le_of_ble_eq_true rfl, Nat.le_of_ble_eq_true rfl⟩) hS (fun q _ h => hFc q h) hFc (fun v5 u t H locs ht hvm hw hB hz1 hk1 hS => ?_)
  obtain ⟨hw1, hw2⟩ := hw
  have hw1 := hw1.symm
  have hw2 := hw2.symm
  subst hw1
  subst hw2
  obtain ⟨hP1, hD1⟩ := hB
  rw [ht] at hP1
  obtain ⟨hP, hD⟩ := joinL hP hD hk1 hFc hP1 hD1
  refine lv_aload_n hx hb dL_law_173 rfl (lv_at hl 2 rfl) ?_
  refine lv_aload_n hx hb dL_law_174 rfl (lv_at hl 0 rfl) ?_
  refine lv_iload_n hx hb dL_law_175 rfl (lv_at hl 3 rfl) ?_
  refine lv_iconst (v := (1 : Int32)) hx hb dL_law_176 (by decide) ?_
  refine lv_iadd hx hb dL_law_177 ?_
  refine va_sld hx hb hX hbl hbA hS h1 dL_law_178 ?_
  have hPc := rightP hP
  have hDc := rightD hD
  have hFc := freeS hDc hS hA
  refine va_calli (va_runV (As := [.int (xs (Int32.toNatClampNeg (i + (1 : Int32))))]) (rest := [.int v]) ⟨hx, hb, hml, hown, hG⟩ (c_X7_feed l D cI cZ am M (xs (Int32.toNatClampNeg (i + (1 : Int32)))) H.size f7) (cwV 1 hG (gV g_597 g_598 g_599 g_77 g_600) rfl rfl rfl (by decide +kernel) ⟨Nat.le_of_ble_eq_true rfl, Nat.le_of_ble_eq_true rfl⟩) ⟨pre_blind, va_recv hK hPc (ci := 7) (q0 := 0) rfl rfl, fun U hU hW => ⟨rfl, pre_of hPc hK hDc hnw hU hW⟩⟩ rfl rfl hl.1 rfl (lv_room (Nat.le_of_ble_eq_true rfl)) dL_law_179 ⟨Nat.le_of_ble_eq_true rfl, Nat.le_of_ble_eq_true rfl⟩) hS (fun q _ h => hFc q h) hFc (fun v6 u t H locs ht hvm hw hB hz1 hk1 hS => ?_)
  obtain ⟨hw1, hw2⟩ := hw
  have hw1 := hw1.symm
  have hw2 := hw2.symm
  subst hw1
  subst hw2
  obtain ⟨hP1, hD1⟩ := hB
  rw [ht] at hP1
  obtain ⟨hP, hD⟩ := joinR hP hD hk1 hFc hP1 hD1
  refine lv_icmp_eq (tgt := 991) hx hb dL_law_182 (by decide) (fun cc => ?_) (fun cc => ?_)
  · exact K a C2 M2 _ _ _ hR2 hP hD hS hl
  · exact absurd rfl cc
set_option maxHeartbeats 4000000 in
set_option maxRecDepth 100000 in
theorem law_case_1 {p : Program} {l : Launch} {e : Env} {s : State} {m : MethodId} {below : List Frame} {meth : Method} {c : Code} {D : va_G} {cI cZ : ClassId} {b L : Nat} {xs : Nat → Int32} (C0 : lw_At p s m meth c b L xs) (hK : va_K D vwCl (TY cI cZ) s) (hnw : nwA s) {am : Nat → Nat} {i : Int32} (h1 : vp_in (i + 1) L) (h2 : vp_in (i + 2) L) (h3 : vp_in (i + 3) L) (a : Nat → Nat → Nat) (C : CC) (M : HC) (hR : Rel C M) (K : ∀ (a : Nat → Nat → Nat) (C : CC) (M : HC) (H : Heap) (locs : List Loc) (ls : Array Slot), Rel C M → va_P D vwCl (cW cI a C ++ kM cI cZ am M) H → va_D (fun q : Nat => s.heap.size ≤ q) (cW cI a C ++ kM cI cZ am M) → va_S (fun q : Nat => s.heap.size ≤ q) s.heap H locs → lv_has ls 4 [(0, .ref b), (1, .ref (a 0 0)), (2, .ref (am 0)), (3, .int i)] → W p l e room_1 s m #[Value.ref b] below meth c H locs 72 1324 (lw_Z below #[Value.ref b] s) (F0 m 991 ls [])) (H : Heap) (locs : List Loc) (ls : Array Slot) (hP : va_P D vwCl (cW cI a C ++ kM cI cZ am M) H) (hD : va_D (fun q : Nat => s.heap.size ≤ q) (cW cI a C ++ kM cI cZ am M)) (hS : va_S (fun q : Nat => s.heap.size ≤ q) s.heap H locs) (hl : lv_has ls 4 [(0, .ref b), (1, .ref (a 0 0)), (2, .ref (am 0)), (3, .int i)]) : W p l e room_1 s m #[Value.ref b] below meth c H locs 72 1324 (lw_Z below #[Value.ref b] s) (F0 m 187 ls []) := by
  obtain ⟨hx, hb, hr, hml, hown, hts, hX, hbl, hlocks, hgv⟩ := C0
  have hA : ∀ q : Nat, s.heap.size ≤ q → (fun q : Nat => s.heap.size ≤ q) q := fun _ h => h
  have hbA : ¬ (fun q : Nat => s.heap.size ≤ q) b := Nat.not_le.mpr hbl
  have hG : ∀ w ∈ GW, w.before #[Value.ref b] s = true := fun w h => hts w (GW_sub w h)
  obtain ⟨v, C2, sb, M2, f6, f7, hR2⟩ := op_land hR 
  refine lv_aload_n hx hb dL_law_187 rfl (lv_at hl 1 rfl) ?_
  have hPc := leftP hP
  have hDc := leftD hD
  have hFc := freeS hDc hS hA
  refine va_calli (va_runV (As := []) (rest := []) ⟨hx, hb, hml, hown, hG⟩ (c_X6_land l D cI cZ a C H.size f6) (cwV 0 hG (gV g_244 g_245 g_246 g_70 g_247) rfl rfl rfl (by decide +kernel) ⟨Nat.le_of_ble_eq_true rfl, Nat.le_of_ble_eq_true rfl⟩) ⟨pre_blind, va_recv hK hPc (ci := 6) (q0 := 0) rfl rfl, fun U hU hW => ⟨rfl, pre_of hPc hK hDc hnw hU hW⟩⟩ rfl rfl hl.1 rfl (lv_room (Nat.le_of_ble_eq_true rfl)) dL_law_188 ⟨Nat.le_of_ble_eq_true rfl, Nat.le_of_ble_eq_true rfl⟩) hS (fun q _ h => hFc q h) hFc (fun v5 u t H locs ht hvm hw hB hz1 hk1 hS => ?_)
  obtain ⟨hw1, hw2⟩ := hw
  have hw1 := hw1.symm
  have hw2 := hw2.symm
  subst hw1
  subst hw2
  obtain ⟨hP1, hD1⟩ := hB
  rw [ht] at hP1
  obtain ⟨hP, hD⟩ := joinL hP hD hk1 hFc hP1 hD1
  refine lv_aload_n hx hb dL_law_191 rfl (lv_at hl 2 rfl) ?_
  have hPc := rightP hP
  have hDc := rightD hD
  have hFc := freeS hDc hS hA
  refine va_calli (va_runV (As := []) (rest := [.int v]) ⟨hx, hb, hml, hown, hG⟩ (c_X7_land l D cI cZ am M H.size f7) (cwV 0 hG (gV g_607 g_608 g_609 g_77 g_610) rfl rfl rfl (by decide +kernel) ⟨Nat.le_of_ble_eq_true rfl, Nat.le_of_ble_eq_true rfl⟩) ⟨pre_blind, va_recv hK hPc (ci := 7) (q0 := 0) rfl rfl, fun U hU hW => ⟨rfl, pre_of hPc hK hDc hnw hU hW⟩⟩ rfl rfl hl.1 rfl (lv_room (Nat.le_of_ble_eq_true rfl)) dL_law_192 ⟨Nat.le_of_ble_eq_true rfl, Nat.le_of_ble_eq_true rfl⟩) hS (fun q _ h => hFc q h) hFc (fun v6 u t H locs ht hvm hw hB hz1 hk1 hS => ?_)
  obtain ⟨hw1, hw2⟩ := hw
  have hw1 := hw1.symm
  have hw2 := hw2.symm
  subst hw1
  subst hw2
  obtain ⟨hP1, hD1⟩ := hB
  rw [ht] at hP1
  obtain ⟨hP, hD⟩ := joinR hP hD hk1 hFc hP1 hD1
  refine lv_icmp_eq (tgt := 991) hx hb dL_law_195 (by decide) (fun cc => ?_) (fun cc => ?_)
  · cases sb with
    | false => exact K a C2 M2 _ _ _ hR2 hP hD hS hl
    | true => exact K (sw a) C2 M2 _ _ _ hR2 hP hD hS hl
  · exact absurd rfl cc
set_option maxHeartbeats 4000000 in
set_option maxRecDepth 100000 in
theorem law_case_2 {p : Program} {l : Launch} {e : Env} {s : State} {m : MethodId} {below : List Frame} {meth : Method} {c : Code} {D : va_G} {cI cZ : ClassId} {b L : Nat} {xs : Nat → Int32} (C0 : lw_At p s m meth c b L xs) (hK : va_K D vwCl (TY cI cZ) s) (hnw : nwA s) {am : Nat → Nat} {i : Int32} (h1 : vp_in (i + 1) L) (h2 : vp_in (i + 2) L) (h3 : vp_in (i + 3) L) (a : Nat → Nat → Nat) (C : CC) (M : HC) (hR : Rel C M) (K : ∀ (a : Nat → Nat → Nat) (C : CC) (M : HC) (H : Heap) (locs : List Loc) (ls : Array Slot), Rel C M → va_P D vwCl (cW cI a C ++ kM cI cZ am M) H → va_D (fun q : Nat => s.heap.size ≤ q) (cW cI a C ++ kM cI cZ am M) → va_S (fun q : Nat => s.heap.size ≤ q) s.heap H locs → lv_has ls 4 [(0, .ref b), (1, .ref (a 0 0)), (2, .ref (am 0)), (3, .int i)] → W p l e room_1 s m #[Value.ref b] below meth c H locs 72 1324 (lw_Z below #[Value.ref b] s) (F0 m 991 ls [])) (H : Heap) (locs : List Loc) (ls : Array Slot) (hP : va_P D vwCl (cW cI a C ++ kM cI cZ am M) H) (hD : va_D (fun q : Nat => s.heap.size ≤ q) (cW cI a C ++ kM cI cZ am M)) (hS : va_S (fun q : Nat => s.heap.size ≤ q) s.heap H locs) (hl : lv_has ls 4 [(0, .ref b), (1, .ref (a 0 0)), (2, .ref (am 0)), (3, .int i)]) : W p l e room_1 s m #[Value.ref b] below meth c H locs 72 1324 (lw_Z below #[Value.ref b] s) (F0 m 200 ls []) := by
  obtain ⟨hx, hb, hr, hml, hown, hts, hX, hbl, hlocks, hgv⟩ := C0
  have hA : ∀ q : Nat, s.heap.size ≤ q → (fun q : Nat => s.heap.size ≤ q) q := fun _ h => h
  have hbA : ¬ (fun q : Nat => s.heap.size ≤ q) b := Nat.not_le.mpr hbl
  have hG : ∀ w ∈ GW, w.before #[Value.ref b] s = true := fun w h => hts w (GW_sub w h)
  obtain ⟨v, f6, f7, hR2⟩ := op_fault hR 
  refine lv_aload_n hx hb dL_law_200 rfl (lv_at hl 1 rfl) ?_
  have hPc := leftP hP
  have hDc := leftD hD
  have hFc := freeS hDc hS hA
  refine va_calli (va_runV (As := []) (rest := []) ⟨hx, hb, hml, hown, hG⟩ (c_X6_fault l D cI cZ a C H.size f6) (cwV 0 hG (gV g_302 g_303 g_304 g_70 g_305) rfl rfl rfl (by decide +kernel) ⟨Nat.le_of_ble_eq_true rfl, Nat.le_of_ble_eq_true rfl⟩) ⟨pre_blind, va_recv hK hPc (ci := 6) (q0 := 0) rfl rfl, fun U hU hW => ⟨rfl, pre_of hPc hK hDc hnw hU hW⟩⟩ rfl rfl hl.1 rfl (lv_room (Nat.le_of_ble_eq_true rfl)) dL_law_201 ⟨Nat.le_of_ble_eq_true rfl, Nat.le_of_ble_eq_true rfl⟩) hS (fun q _ h => hFc q h) hFc (fun v5 u t H locs ht hvm hw hB hz1 hk1 hS => ?_)
  have hw := hw.symm; subst hw
  obtain ⟨hP1, hD1⟩ := hB
  rw [ht] at hP1
  obtain ⟨hP, hD⟩ := joinL hP hD hk1 hFc hP1 hD1
  refine lv_aload_n hx hb dL_law_204 rfl (lv_at hl 2 rfl) ?_
  have hPc := rightP hP
  have hDc := rightD hD
  have hFc := freeS hDc hS hA
  refine va_calli (va_runV (As := []) (rest := [.int v]) ⟨hx, hb, hml, hown, hG⟩ (c_X7_fault l D cI cZ am M H.size f7) (cwV 0 hG (gV g_655 g_656 g_657 g_77 g_658) rfl rfl rfl (by decide +kernel) ⟨Nat.le_of_ble_eq_true rfl, Nat.le_of_ble_eq_true rfl⟩) ⟨pre_blind, va_recv hK hPc (ci := 7) (q0 := 0) rfl rfl, fun U hU hW => ⟨rfl, pre_of hPc hK hDc hnw hU hW⟩⟩ rfl rfl hl.1 rfl (lv_room (Nat.le_of_ble_eq_true rfl)) dL_law_205 ⟨Nat.le_of_ble_eq_true rfl, Nat.le_of_ble_eq_true rfl⟩) hS (fun q _ h => hFc q h) hFc (fun v6 u t H locs ht hvm hw hB hz1 hk1 hS => ?_)
  have hw := hw.symm; subst hw
  obtain ⟨hP1, hD1⟩ := hB
  rw [ht] at hP1
  obtain ⟨hP, hD⟩ := joinR hP hD hk1 hFc hP1 hD1
  refine lv_icmp_eq (tgt := 991) hx hb dL_law_208 (by decide) (fun cc => ?_) (fun cc => ?_)
  · exact K a C M _ _ _ hR2 hP hD hS hl
  · exact absurd rfl cc
set_option maxHeartbeats 4000000 in
set_option maxRecDepth 100000 in
theorem law_case_3 {p : Program} {l : Launch} {e : Env} {s : State} {m : MethodId} {below : List Frame} {meth : Method} {c : Code} {D : va_G} {cI cZ : ClassId} {b L : Nat} {xs : Nat → Int32} (C0 : lw_At p s m meth c b L xs) (hK : va_K D vwCl (TY cI cZ) s) (hnw : nwA s) {am : Nat → Nat} {i : Int32} (h1 : vp_in (i + 1) L) (h2 : vp_in (i + 2) L) (h3 : vp_in (i + 3) L) (a : Nat → Nat → Nat) (C : CC) (M : HC) (hR : Rel C M) (K : ∀ (a : Nat → Nat → Nat) (C : CC) (M : HC) (H : Heap) (locs : List Loc) (ls : Array Slot), Rel C M → va_P D vwCl (cW cI a C ++ kM cI cZ am M) H → va_D (fun q : Nat => s.heap.size ≤ q) (cW cI a C ++ kM cI cZ am M) → va_S (fun q : Nat => s.heap.size ≤ q) s.heap H locs → lv_has ls 4 [(0, .ref b), (1, .ref (a 0 0)), (2, .ref (am 0)), (3, .int i)] → W p l e room_1 s m #[Value.ref b] below meth c H locs 72 1324 (lw_Z below #[Value.ref b] s) (F0 m 991 ls [])) (H : Heap) (locs : List Loc) (ls : Array Slot) (hP : va_P D vwCl (cW cI a C ++ kM cI cZ am M) H) (hD : va_D (fun q : Nat => s.heap.size ≤ q) (cW cI a C ++ kM cI cZ am M)) (hS : va_S (fun q : Nat => s.heap.size ≤ q) s.heap H locs) (hl : lv_has ls 4 [(0, .ref b), (1, .ref (a 0 0)), (2, .ref (am 0)), (3, .int i)]) : W p l e room_1 s m #[Value.ref b] below meth c H locs 72 1324 (lw_Z below #[Value.ref b] s) (F0 m 213 ls []) := by
  obtain ⟨hx, hb, hr, hml, hown, hts, hX, hbl, hlocks, hgv⟩ := C0
  have hA : ∀ q : Nat, s.heap.size ≤ q → (fun q : Nat => s.heap.size ≤ q) q := fun _ h => h
  have hbA : ¬ (fun q : Nat => s.heap.size ≤ q) b := Nat.not_le.mpr hbl
  have hG : ∀ w ∈ GW, w.before #[Value.ref b] s = true := fun w h => hts w (GW_sub w h)
  obtain ⟨v, f6, f7, hR2⟩ := op_told hR (xs (Int32.toNatClampNeg (i + (1 : Int32))))
  refine lv_aload_n hx hb dL_law_213 rfl (lv_at hl 1 rfl) ?_
  refine lv_aload_n hx hb dL_law_214 rfl (lv_at hl 0 rfl) ?_
  refine lv_iload_n hx hb dL_law_215 rfl (lv_at hl 3 rfl) ?_
  refine lv_iconst (v := (1 : Int32)) hx hb dL_law_216 (by decide) ?_
  refine lv_iadd hx hb dL_law_217 ?_
  refine va_sld hx hb hX hbl hbA hS h1 dL_law_218 ?_
  have hPc := leftP hP
  have hDc := leftD hD
  have hFc := freeS hDc hS hA
  refine va_calli (va_runV (As := [.int (xs (Int32.toNatClampNeg (i + (1 : Int32))))]) (rest := []) ⟨hx, hb, hml, hown, hG⟩ (c_X6_told l D cI cZ a C (xs (Int32.toNatClampNeg (i + (1 : Int32)))) H.size f6) (cwV 1 hG (gV g_306 g_307 g_308 g_70 g_309) rfl rfl rfl (by decide +kernel) ⟨Nat.le_of_ble_eq_true rfl, Nat.le_of_ble_eq_true rfl⟩) ⟨pre_blind, va_recv hK hPc (ci := 6) (q0 := 0) rfl rfl, fun U hU hW => ⟨rfl, pre_of hPc hK hDc hnw hU hW⟩⟩ rfl rfl hl.1 rfl (lv_room (Nat.le_of_ble_eq_true rfl)) dL_law_219 ⟨Nat.le_of_ble_eq_true rfl, Nat.le_of_ble_eq_true rfl⟩) hS (fun q _ h => hFc q h) hFc (fun v5 u t H locs ht hvm hw hB hz1 hk1 hS => ?_)
  have hw := hw.symm; subst hw
  obtain ⟨hP1, hD1⟩ := hB
  rw [ht] at hP1
  obtain ⟨hP, hD⟩ := joinL hP hD hk1 hFc hP1 hD1
  refine lv_aload_n hx hb dL_law_222 rfl (lv_at hl 2 rfl) ?_
  refine lv_aload_n hx hb dL_law_223 rfl (lv_at hl 0 rfl) ?_
  refine lv_iload_n hx hb dL_law_224 rfl (lv_at hl 3 rfl) ?_
  refine lv_iconst (v := (1 : Int32)) hx hb dL_law_225 (by decide) ?_
  refine lv_iadd hx hb dL_law_226 ?_
  refine va_sld hx hb hX hbl hbA hS h1 dL_law_227 ?_
  have hPc := rightP hP
  have hDc := rightD hD
  have hFc := freeS hDc hS hA
  refine va_calli (va_runV (As := [.int (xs (Int32.toNatClampNeg (i + (1 : Int32))))]) (rest := [.int v]) ⟨hx, hb, hml, hown, hG⟩ (c_X7_told l D cI cZ am M (xs (Int32.toNatClampNeg (i + (1 : Int32)))) H.size f7) (cwV 1 hG (gV g_659 g_660 g_661 g_77 g_662) rfl rfl rfl (by decide +kernel) ⟨Nat.le_of_ble_eq_true rfl, Nat.le_of_ble_eq_true rfl⟩) ⟨pre_blind, va_recv hK hPc (ci := 7) (q0 := 0) rfl rfl, fun U hU hW => ⟨rfl, pre_of hPc hK hDc hnw hU hW⟩⟩ rfl rfl hl.1 rfl (lv_room (Nat.le_of_ble_eq_true rfl)) dL_law_228 ⟨Nat.le_of_ble_eq_true rfl, Nat.le_of_ble_eq_true rfl⟩) hS (fun q _ h => hFc q h) hFc (fun v6 u t H locs ht hvm hw hB hz1 hk1 hS => ?_)
  have hw := hw.symm; subst hw
  obtain ⟨hP1, hD1⟩ := hB
  rw [ht] at hP1
  obtain ⟨hP, hD⟩ := joinR hP hD hk1 hFc hP1 hD1
  refine lv_icmp_eq (tgt := 991) hx hb dL_law_231 (by decide) (fun cc => ?_) (fun cc => ?_)
  · exact K a C M _ _ _ hR2 hP hD hS hl
  · exact absurd rfl cc
set_option maxHeartbeats 4000000 in
set_option maxRecDepth 100000 in
theorem law_case_4 {p : Program} {l : Launch} {e : Env} {s : State} {m : MethodId} {below : List Frame} {meth : Method} {c : Code} {D : va_G} {cI cZ : ClassId} {b L : Nat} {xs : Nat → Int32} (C0 : lw_At p s m meth c b L xs) (hK : va_K D vwCl (TY cI cZ) s) (hnw : nwA s) {am : Nat → Nat} {i : Int32} (h1 : vp_in (i + 1) L) (h2 : vp_in (i + 2) L) (h3 : vp_in (i + 3) L) (a : Nat → Nat → Nat) (C : CC) (M : HC) (hR : Rel C M) (K : ∀ (a : Nat → Nat → Nat) (C : CC) (M : HC) (H : Heap) (locs : List Loc) (ls : Array Slot), Rel C M → va_P D vwCl (cW cI a C ++ kM cI cZ am M) H → va_D (fun q : Nat => s.heap.size ≤ q) (cW cI a C ++ kM cI cZ am M) → va_S (fun q : Nat => s.heap.size ≤ q) s.heap H locs → lv_has ls 4 [(0, .ref b), (1, .ref (a 0 0)), (2, .ref (am 0)), (3, .int i)] → W p l e room_1 s m #[Value.ref b] below meth c H locs 72 1324 (lw_Z below #[Value.ref b] s) (F0 m 991 ls [])) (H : Heap) (locs : List Loc) (ls : Array Slot) (hP : va_P D vwCl (cW cI a C ++ kM cI cZ am M) H) (hD : va_D (fun q : Nat => s.heap.size ≤ q) (cW cI a C ++ kM cI cZ am M)) (hS : va_S (fun q : Nat => s.heap.size ≤ q) s.heap H locs) (hl : lv_has ls 4 [(0, .ref b), (1, .ref (a 0 0)), (2, .ref (am 0)), (3, .int i)]) : W p l e room_1 s m #[Value.ref b] below meth c H locs 72 1324 (lw_Z below #[Value.ref b] s) (F0 m 236 ls []) := by
  obtain ⟨hx, hb, hr, hml, hown, hts, hX, hbl, hlocks, hgv⟩ := C0
  have hA : ∀ q : Nat, s.heap.size ≤ q → (fun q : Nat => s.heap.size ≤ q) q := fun _ h => h
  have hbA : ¬ (fun q : Nat => s.heap.size ≤ q) b := Nat.not_le.mpr hbl
  have hG : ∀ w ∈ GW, w.before #[Value.ref b] s = true := fun w h => hts w (GW_sub w h)
  obtain ⟨v, f6, f7, hR2⟩ := op_fighter hR (xs (Int32.toNatClampNeg (i + (1 : Int32)))) (xs (Int32.toNatClampNeg (i + (2 : Int32))))
  refine lv_aload_n hx hb dL_law_236 rfl (lv_at hl 1 rfl) ?_
  refine lv_aload_n hx hb dL_law_237 rfl (lv_at hl 0 rfl) ?_
  refine lv_iload_n hx hb dL_law_238 rfl (lv_at hl 3 rfl) ?_
  refine lv_iconst (v := (1 : Int32)) hx hb dL_law_239 (by decide) ?_
  refine lv_iadd hx hb dL_law_240 ?_
  refine va_sld hx hb hX hbl hbA hS h1 dL_law_241 ?_
  refine lv_aload_n hx hb dL_law_242 rfl (lv_at hl 0 rfl) ?_
  refine lv_iload_n hx hb dL_law_243 rfl (lv_at hl 3 rfl) ?_
  refine lv_iconst (v := (2 : Int32)) hx hb dL_law_244 (by decide) ?_
  refine lv_iadd hx hb dL_law_245 ?_
  refine va_sld hx hb hX hbl hbA hS h2 dL_law_246 ?_
  have hPc := leftP hP
  have hDc := leftD hD
  have hFc := freeS hDc hS hA
  refine va_calli (va_runV (As := [.int (xs (Int32.toNatClampNeg (i + (1 : Int32)))), .int (xs (Int32.toNatClampNeg (i + (2 : Int32))))]) (rest := []) ⟨hx, hb, hml, hown, hG⟩ (c_X6_fighter l D cI cZ a C (xs (Int32.toNatClampNeg (i + (1 : Int32)))) (xs (Int32.toNatClampNeg (i + (2 : Int32)))) H.size f6) (cwV 2 hG (gV g_314 g_315 g_316 g_70 g_317) rfl rfl rfl (by decide +kernel) ⟨Nat.le_of_ble_eq_true rfl, Nat.le_of_ble_eq_true rfl⟩) ⟨pre_blind, va_recv hK hPc (ci := 6) (q0 := 0) rfl rfl, fun U hU hW => ⟨rfl, pre_of hPc hK hDc hnw hU hW⟩⟩ rfl rfl hl.1 rfl (lv_room (Nat.le_of_ble_eq_true rfl)) dL_law_247 ⟨Nat.le_of_ble_eq_true rfl, Nat.le_of_ble_eq_true rfl⟩) hS (fun q _ h => hFc q h) hFc (fun v5 u t H locs ht hvm hw hB hz1 hk1 hS => ?_)
  have hw := hw.symm; subst hw
  obtain ⟨hP1, hD1⟩ := hB
  rw [ht] at hP1
  obtain ⟨hP, hD⟩ := joinL hP hD hk1 hFc hP1 hD1
  refine lv_aload_n hx hb dL_law_250 rfl (lv_at hl 2 rfl) ?_
  refine lv_aload_n hx hb dL_law_251 rfl (lv_at hl 0 rfl) ?_
  refine lv_iload_n hx hb dL_law_252 rfl (lv_at hl 3 rfl) ?_
  refine lv_iconst (v := (1 : Int32)) hx hb dL_law_253 (by decide) ?_
  refine lv_iadd hx hb dL_law_254 ?_
  refine va_sld hx hb hX hbl hbA hS h1 dL_law_255 ?_
  refine lv_aload_n hx hb dL_law_256 rfl (lv_at hl 0 rfl) ?_
  refine lv_iload_n hx hb dL_law_257 rfl (lv_at hl 3 rfl) ?_
  refine lv_iconst (v := (2 : Int32)) hx hb dL_law_258 (by decide) ?_
  refine lv_iadd hx hb dL_law_259 ?_
  refine va_sld hx hb hX hbl hbA hS h2 dL_law_260 ?_
  have hPc := rightP hP
  have hDc := rightD hD
  have hFc := freeS hDc hS hA
  refine va_calli (va_runV (As := [.int (xs (Int32.toNatClampNeg (i + (1 : Int32)))), .int (xs (Int32.toNatClampNeg (i + (2 : Int32))))]) (rest := [.int v]) ⟨hx, hb, hml, hown, hG⟩ (c_X7_fighter l D cI cZ am M (xs (Int32.toNatClampNeg (i + (1 : Int32)))) (xs (Int32.toNatClampNeg (i + (2 : Int32)))) H.size f7) (cwV 2 hG (gV g_669 g_670 g_671 g_77 g_672) rfl rfl rfl (by decide +kernel) ⟨Nat.le_of_ble_eq_true rfl, Nat.le_of_ble_eq_true rfl⟩) ⟨pre_blind, va_recv hK hPc (ci := 7) (q0 := 0) rfl rfl, fun U hU hW => ⟨rfl, pre_of hPc hK hDc hnw hU hW⟩⟩ rfl rfl hl.1 rfl (lv_room (Nat.le_of_ble_eq_true rfl)) dL_law_261 ⟨Nat.le_of_ble_eq_true rfl, Nat.le_of_ble_eq_true rfl⟩) hS (fun q _ h => hFc q h) hFc (fun v6 u t H locs ht hvm hw hB hz1 hk1 hS => ?_)
  have hw := hw.symm; subst hw
  obtain ⟨hP1, hD1⟩ := hB
  rw [ht] at hP1
  obtain ⟨hP, hD⟩ := joinR hP hD hk1 hFc hP1 hD1
  refine lv_icmp_eq (tgt := 991) hx hb dL_law_264 (by decide) (fun cc => ?_) (fun cc => ?_)
  · exact K a C M _ _ _ hR2 hP hD hS hl
  · exact absurd rfl cc
set_option maxHeartbeats 4000000 in
set_option maxRecDepth 100000 in
theorem law_case_5 {p : Program} {l : Launch} {e : Env} {s : State} {m : MethodId} {below : List Frame} {meth : Method} {c : Code} {D : va_G} {cI cZ : ClassId} {b L : Nat} {xs : Nat → Int32} (C0 : lw_At p s m meth c b L xs) (hK : va_K D vwCl (TY cI cZ) s) (hnw : nwA s) {am : Nat → Nat} {i : Int32} (h1 : vp_in (i + 1) L) (h2 : vp_in (i + 2) L) (h3 : vp_in (i + 3) L) (a : Nat → Nat → Nat) (C : CC) (M : HC) (hR : Rel C M) (K : ∀ (a : Nat → Nat → Nat) (C : CC) (M : HC) (H : Heap) (locs : List Loc) (ls : Array Slot), Rel C M → va_P D vwCl (cW cI a C ++ kM cI cZ am M) H → va_D (fun q : Nat => s.heap.size ≤ q) (cW cI a C ++ kM cI cZ am M) → va_S (fun q : Nat => s.heap.size ≤ q) s.heap H locs → lv_has ls 4 [(0, .ref b), (1, .ref (a 0 0)), (2, .ref (am 0)), (3, .int i)] → W p l e room_1 s m #[Value.ref b] below meth c H locs 72 1324 (lw_Z below #[Value.ref b] s) (F0 m 991 ls [])) (H : Heap) (locs : List Loc) (ls : Array Slot) (hP : va_P D vwCl (cW cI a C ++ kM cI cZ am M) H) (hD : va_D (fun q : Nat => s.heap.size ≤ q) (cW cI a C ++ kM cI cZ am M)) (hS : va_S (fun q : Nat => s.heap.size ≤ q) s.heap H locs) (hl : lv_has ls 4 [(0, .ref b), (1, .ref (a 0 0)), (2, .ref (am 0)), (3, .int i)]) : W p l e room_1 s m #[Value.ref b] below meth c H locs 72 1324 (lw_Z below #[Value.ref b] s) (F0 m 269 ls []) := by
  obtain ⟨hx, hb, hr, hml, hown, hts, hX, hbl, hlocks, hgv⟩ := C0
  have hA : ∀ q : Nat, s.heap.size ≤ q → (fun q : Nat => s.heap.size ≤ q) q := fun _ h => h
  have hbA : ¬ (fun q : Nat => s.heap.size ≤ q) b := Nat.not_le.mpr hbl
  have hG : ∀ w ∈ GW, w.before #[Value.ref b] s = true := fun w h => hts w (GW_sub w h)
  obtain ⟨v, f6, f7, hR2⟩ := op_thinks hR (xs (Int32.toNatClampNeg (i + (1 : Int32)))) (xs (Int32.toNatClampNeg (i + (2 : Int32))))
  refine lv_aload_n hx hb dL_law_269 rfl (lv_at hl 1 rfl) ?_
  refine lv_aload_n hx hb dL_law_270 rfl (lv_at hl 0 rfl) ?_
  refine lv_iload_n hx hb dL_law_271 rfl (lv_at hl 3 rfl) ?_
  refine lv_iconst (v := (1 : Int32)) hx hb dL_law_272 (by decide) ?_
  refine lv_iadd hx hb dL_law_273 ?_
  refine va_sld hx hb hX hbl hbA hS h1 dL_law_274 ?_
  refine lv_aload_n hx hb dL_law_275 rfl (lv_at hl 0 rfl) ?_
  refine lv_iload_n hx hb dL_law_276 rfl (lv_at hl 3 rfl) ?_
  refine lv_iconst (v := (2 : Int32)) hx hb dL_law_277 (by decide) ?_
  refine lv_iadd hx hb dL_law_278 ?_
  refine va_sld hx hb hX hbl hbA hS h2 dL_law_279 ?_
  have hPc := leftP hP
  have hDc := leftD hD
  have hFc := freeS hDc hS hA
  refine va_calli (va_runV (As := [.int (xs (Int32.toNatClampNeg (i + (1 : Int32)))), .int (xs (Int32.toNatClampNeg (i + (2 : Int32))))]) (rest := []) ⟨hx, hb, hml, hown, hG⟩ (c_X6_thinks l D cI cZ a C (xs (Int32.toNatClampNeg (i + (1 : Int32)))) (xs (Int32.toNatClampNeg (i + (2 : Int32)))) H.size f6) (cwV 2 hG (gV g_340 g_341 g_342 g_70 g_343) rfl rfl rfl (by decide +kernel) ⟨Nat.le_of_ble_eq_true rfl, Nat.le_of_ble_eq_true rfl⟩) ⟨pre_blind, va_recv hK hPc (ci := 6) (q0 := 0) rfl rfl, fun U hU hW => ⟨rfl, pre_of hPc hK hDc hnw hU hW⟩⟩ rfl rfl hl.1 rfl (lv_room (Nat.le_of_ble_eq_true rfl)) dL_law_280 ⟨Nat.le_of_ble_eq_true rfl, Nat.le_of_ble_eq_true rfl⟩) hS (fun q _ h => hFc q h) hFc (fun v5 u t H locs ht hvm hw hB hz1 hk1 hS => ?_)
  have hw := hw.symm; subst hw
  obtain ⟨hP1, hD1⟩ := hB
  rw [ht] at hP1
  obtain ⟨hP, hD⟩ := joinL hP hD hk1 hFc hP1 hD1
  refine lv_aload_n hx hb dL_law_283 rfl (lv_at hl 2 rfl) ?_
  refine lv_aload_n hx hb dL_law_284 rfl (lv_at hl 0 rfl) ?_
  refine lv_iload_n hx hb dL_law_285 rfl (lv_at hl 3 rfl) ?_
  refine lv_iconst (v := (1 : Int32)) hx hb dL_law_286 (by decide) ?_
  refine lv_iadd hx hb dL_law_287 ?_
  refine va_sld hx hb hX hbl hbA hS h1 dL_law_288 ?_
  refine lv_aload_n hx hb dL_law_289 rfl (lv_at hl 0 rfl) ?_
  refine lv_iload_n hx hb dL_law_290 rfl (lv_at hl 3 rfl) ?_
  refine lv_iconst (v := (2 : Int32)) hx hb dL_law_291 (by decide) ?_
  refine lv_iadd hx hb dL_law_292 ?_
  refine va_sld hx hb hX hbl hbA hS h2 dL_law_293 ?_
  have hPc := rightP hP
  have hDc := rightD hD
  have hFc := freeS hDc hS hA
  refine va_calli (va_runV (As := [.int (xs (Int32.toNatClampNeg (i + (1 : Int32)))), .int (xs (Int32.toNatClampNeg (i + (2 : Int32))))]) (rest := [.int v]) ⟨hx, hb, hml, hown, hG⟩ (c_X7_thinks l D cI cZ am M (xs (Int32.toNatClampNeg (i + (1 : Int32)))) (xs (Int32.toNatClampNeg (i + (2 : Int32)))) H.size f7) (cwV 2 hG (gV g_686 g_687 g_688 g_77 g_689) rfl rfl rfl (by decide +kernel) ⟨Nat.le_of_ble_eq_true rfl, Nat.le_of_ble_eq_true rfl⟩) ⟨pre_blind, va_recv hK hPc (ci := 7) (q0 := 0) rfl rfl, fun U hU hW => ⟨rfl, pre_of hPc hK hDc hnw hU hW⟩⟩ rfl rfl hl.1 rfl (lv_room (Nat.le_of_ble_eq_true rfl)) dL_law_294 ⟨Nat.le_of_ble_eq_true rfl, Nat.le_of_ble_eq_true rfl⟩) hS (fun q _ h => hFc q h) hFc (fun v6 u t H locs ht hvm hw hB hz1 hk1 hS => ?_)
  have hw := hw.symm; subst hw
  obtain ⟨hP1, hD1⟩ := hB
  rw [ht] at hP1
  obtain ⟨hP, hD⟩ := joinR hP hD hk1 hFc hP1 hD1
  refine lv_icmp_eq (tgt := 991) hx hb dL_law_297 (by decide) (fun cc => ?_) (fun cc => ?_)
  · exact K a C M _ _ _ hR2 hP hD hS hl
  · exact absurd rfl cc
set_option maxHeartbeats 4000000 in
set_option maxRecDepth 100000 in
theorem law_case_6 {p : Program} {l : Launch} {e : Env} {s : State} {m : MethodId} {below : List Frame} {meth : Method} {c : Code} {D : va_G} {cI cZ : ClassId} {b L : Nat} {xs : Nat → Int32} (C0 : lw_At p s m meth c b L xs) (hK : va_K D vwCl (TY cI cZ) s) (hnw : nwA s) {am : Nat → Nat} {i : Int32} (h1 : vp_in (i + 1) L) (h2 : vp_in (i + 2) L) (h3 : vp_in (i + 3) L) (a : Nat → Nat → Nat) (C : CC) (M : HC) (hR : Rel C M) (K : ∀ (a : Nat → Nat → Nat) (C : CC) (M : HC) (H : Heap) (locs : List Loc) (ls : Array Slot), Rel C M → va_P D vwCl (cW cI a C ++ kM cI cZ am M) H → va_D (fun q : Nat => s.heap.size ≤ q) (cW cI a C ++ kM cI cZ am M) → va_S (fun q : Nat => s.heap.size ≤ q) s.heap H locs → lv_has ls 4 [(0, .ref b), (1, .ref (a 0 0)), (2, .ref (am 0)), (3, .int i)] → W p l e room_1 s m #[Value.ref b] below meth c H locs 72 1324 (lw_Z below #[Value.ref b] s) (F0 m 991 ls [])) (H : Heap) (locs : List Loc) (ls : Array Slot) (hP : va_P D vwCl (cW cI a C ++ kM cI cZ am M) H) (hD : va_D (fun q : Nat => s.heap.size ≤ q) (cW cI a C ++ kM cI cZ am M)) (hS : va_S (fun q : Nat => s.heap.size ≤ q) s.heap H locs) (hl : lv_has ls 4 [(0, .ref b), (1, .ref (a 0 0)), (2, .ref (am 0)), (3, .int i)]) : W p l e room_1 s m #[Value.ref b] below meth c H locs 72 1324 (lw_Z below #[Value.ref b] s) (F0 m 302 ls []) := by
  obtain ⟨hx, hb, hr, hml, hown, hts, hX, hbl, hlocks, hgv⟩ := C0
  have hA : ∀ q : Nat, s.heap.size ≤ q → (fun q : Nat => s.heap.size ≤ q) q := fun _ h => h
  have hbA : ¬ (fun q : Nat => s.heap.size ≤ q) b := Nat.not_le.mpr hbl
  have hG : ∀ w ∈ GW, w.before #[Value.ref b] s = true := fun w h => hts w (GW_sub w h)
  obtain ⟨v, f6, f7, hR2⟩ := op_chats hR (xs (Int32.toNatClampNeg (i + (1 : Int32))))
  refine lv_aload_n hx hb dL_law_302 rfl (lv_at hl 1 rfl) ?_
  refine lv_aload_n hx hb dL_law_303 rfl (lv_at hl 0 rfl) ?_
  refine lv_iload_n hx hb dL_law_304 rfl (lv_at hl 3 rfl) ?_
  refine lv_iconst (v := (1 : Int32)) hx hb dL_law_305 (by decide) ?_
  refine lv_iadd hx hb dL_law_306 ?_
  refine va_sld hx hb hX hbl hbA hS h1 dL_law_307 ?_
  have hPc := leftP hP
  have hDc := leftD hD
  have hFc := freeS hDc hS hA
  refine va_calli (va_runV (As := [.int (xs (Int32.toNatClampNeg (i + (1 : Int32))))]) (rest := []) ⟨hx, hb, hml, hown, hG⟩ (c_X6_chats l D cI cZ a C (xs (Int32.toNatClampNeg (i + (1 : Int32)))) H.size f6) (cwV 1 hG (gV g_347 g_348 g_349 g_70 g_350) rfl rfl rfl (by decide +kernel) ⟨Nat.le_of_ble_eq_true rfl, Nat.le_of_ble_eq_true rfl⟩) ⟨pre_blind, va_recv hK hPc (ci := 6) (q0 := 0) rfl rfl, fun U hU hW => ⟨rfl, pre_of hPc hK hDc hnw hU hW⟩⟩ rfl rfl hl.1 rfl (lv_room (Nat.le_of_ble_eq_true rfl)) dL_law_308 ⟨Nat.le_of_ble_eq_true rfl, Nat.le_of_ble_eq_true rfl⟩) hS (fun q _ h => hFc q h) hFc (fun v5 u t H locs ht hvm hw hB hz1 hk1 hS => ?_)
  have hw := hw.symm; subst hw
  obtain ⟨hP1, hD1⟩ := hB
  rw [ht] at hP1
  obtain ⟨hP, hD⟩ := joinL hP hD hk1 hFc hP1 hD1
  refine lv_aload_n hx hb dL_law_311 rfl (lv_at hl 2 rfl) ?_
  refine lv_aload_n hx hb dL_law_312 rfl (lv_at hl 0 rfl) ?_
  refine lv_iload_n hx hb dL_law_313 rfl (lv_at hl 3 rfl) ?_
  refine lv_iconst (v := (1 : Int32)) hx hb dL_law_314 (by decide) ?_
  refine lv_iadd hx hb dL_law_315 ?_
  refine va_sld hx hb hX hbl hbA hS h1 dL_law_316 ?_
  have hPc := rightP hP
  have hDc := rightD hD
  have hFc := freeS hDc hS hA
  refine va_calli (va_runV (As := [.int (xs (Int32.toNatClampNeg (i + (1 : Int32))))]) (rest := [.int v]) ⟨hx, hb, hml, hown, hG⟩ (c_X7_chats l D cI cZ am M (xs (Int32.toNatClampNeg (i + (1 : Int32)))) H.size f7) (cwV 1 hG (gV g_693 g_694 g_695 g_77 g_696) rfl rfl rfl (by decide +kernel) ⟨Nat.le_of_ble_eq_true rfl, Nat.le_of_ble_eq_true rfl⟩) ⟨pre_blind, va_recv hK hPc (ci := 7) (q0 := 0) rfl rfl, fun U hU hW => ⟨rfl, pre_of hPc hK hDc hnw hU hW⟩⟩ rfl rfl hl.1 rfl (lv_room (Nat.le_of_ble_eq_true rfl)) dL_law_317 ⟨Nat.le_of_ble_eq_true rfl, Nat.le_of_ble_eq_true rfl⟩) hS (fun q _ h => hFc q h) hFc (fun v6 u t H locs ht hvm hw hB hz1 hk1 hS => ?_)
  have hw := hw.symm; subst hw
  obtain ⟨hP1, hD1⟩ := hB
  rw [ht] at hP1
  obtain ⟨hP, hD⟩ := joinR hP hD hk1 hFc hP1 hD1
  refine lv_icmp_eq (tgt := 991) hx hb dL_law_320 (by decide) (fun cc => ?_) (fun cc => ?_)
  · exact K a C M _ _ _ hR2 hP hD hS hl
  · exact absurd rfl cc
set_option maxHeartbeats 4000000 in
set_option maxRecDepth 100000 in
theorem law_case_7 {p : Program} {l : Launch} {e : Env} {s : State} {m : MethodId} {below : List Frame} {meth : Method} {c : Code} {D : va_G} {cI cZ : ClassId} {b L : Nat} {xs : Nat → Int32} (C0 : lw_At p s m meth c b L xs) (hK : va_K D vwCl (TY cI cZ) s) (hnw : nwA s) {am : Nat → Nat} {i : Int32} (h1 : vp_in (i + 1) L) (h2 : vp_in (i + 2) L) (h3 : vp_in (i + 3) L) (a : Nat → Nat → Nat) (C : CC) (M : HC) (hR : Rel C M) (K : ∀ (a : Nat → Nat → Nat) (C : CC) (M : HC) (H : Heap) (locs : List Loc) (ls : Array Slot), Rel C M → va_P D vwCl (cW cI a C ++ kM cI cZ am M) H → va_D (fun q : Nat => s.heap.size ≤ q) (cW cI a C ++ kM cI cZ am M) → va_S (fun q : Nat => s.heap.size ≤ q) s.heap H locs → lv_has ls 4 [(0, .ref b), (1, .ref (a 0 0)), (2, .ref (am 0)), (3, .int i)] → W p l e room_1 s m #[Value.ref b] below meth c H locs 72 1324 (lw_Z below #[Value.ref b] s) (F0 m 991 ls [])) (H : Heap) (locs : List Loc) (ls : Array Slot) (hP : va_P D vwCl (cW cI a C ++ kM cI cZ am M) H) (hD : va_D (fun q : Nat => s.heap.size ≤ q) (cW cI a C ++ kM cI cZ am M)) (hS : va_S (fun q : Nat => s.heap.size ≤ q) s.heap H locs) (hl : lv_has ls 4 [(0, .ref b), (1, .ref (a 0 0)), (2, .ref (am 0)), (3, .int i)]) : W p l e room_1 s m #[Value.ref b] below meth c H locs 72 1324 (lw_Z below #[Value.ref b] s) (F0 m 325 ls []) := by
  obtain ⟨hx, hb, hr, hml, hown, hts, hX, hbl, hlocks, hgv⟩ := C0
  have hA : ∀ q : Nat, s.heap.size ≤ q → (fun q : Nat => s.heap.size ≤ q) q := fun _ h => h
  have hbA : ¬ (fun q : Nat => s.heap.size ≤ q) b := Nat.not_le.mpr hbl
  have hG : ∀ w ∈ GW, w.before #[Value.ref b] s = true := fun w h => hts w (GW_sub w h)
  obtain ⟨v, f6, f7, hR2⟩ := op_task hR (xs (Int32.toNatClampNeg (i + (1 : Int32)))) (xs (Int32.toNatClampNeg (i + (2 : Int32))))
  refine lv_aload_n hx hb dL_law_325 rfl (lv_at hl 1 rfl) ?_
  refine lv_aload_n hx hb dL_law_326 rfl (lv_at hl 0 rfl) ?_
  refine lv_iload_n hx hb dL_law_327 rfl (lv_at hl 3 rfl) ?_
  refine lv_iconst (v := (1 : Int32)) hx hb dL_law_328 (by decide) ?_
  refine lv_iadd hx hb dL_law_329 ?_
  refine va_sld hx hb hX hbl hbA hS h1 dL_law_330 ?_
  refine lv_aload_n hx hb dL_law_331 rfl (lv_at hl 0 rfl) ?_
  refine lv_iload_n hx hb dL_law_332 rfl (lv_at hl 3 rfl) ?_
  refine lv_iconst (v := (2 : Int32)) hx hb dL_law_333 (by decide) ?_
  refine lv_iadd hx hb dL_law_334 ?_
  refine va_sld hx hb hX hbl hbA hS h2 dL_law_335 ?_
  have hPc := leftP hP
  have hDc := leftD hD
  have hFc := freeS hDc hS hA
  refine va_calli (va_runV (As := [.int (xs (Int32.toNatClampNeg (i + (1 : Int32)))), .int (xs (Int32.toNatClampNeg (i + (2 : Int32))))]) (rest := []) ⟨hx, hb, hml, hown, hG⟩ (c_X6_task l D cI cZ a C (xs (Int32.toNatClampNeg (i + (1 : Int32)))) (xs (Int32.toNatClampNeg (i + (2 : Int32)))) H.size f6) (cwV 2 hG (gV g_351 g_352 g_353 g_70 g_354) rfl rfl rfl (by decide +kernel) ⟨Nat.le_of_ble_eq_true rfl, Nat.le_of_ble_eq_true rfl⟩) ⟨pre_blind, va_recv hK hPc (ci := 6) (q0 := 0) rfl rfl, fun U hU hW => ⟨rfl, pre_of hPc hK hDc hnw hU hW⟩⟩ rfl rfl hl.1 rfl (lv_room (Nat.le_of_ble_eq_true rfl)) dL_law_336 ⟨Nat.le_of_ble_eq_true rfl, Nat.le_of_ble_eq_true rfl⟩) hS (fun q _ h => hFc q h) hFc (fun v5 u t H locs ht hvm hw hB hz1 hk1 hS => ?_)
  have hw := hw.symm; subst hw
  obtain ⟨hP1, hD1⟩ := hB
  rw [ht] at hP1
  obtain ⟨hP, hD⟩ := joinL hP hD hk1 hFc hP1 hD1
  refine lv_aload_n hx hb dL_law_339 rfl (lv_at hl 2 rfl) ?_
  refine lv_aload_n hx hb dL_law_340 rfl (lv_at hl 0 rfl) ?_
  refine lv_iload_n hx hb dL_law_341 rfl (lv_at hl 3 rfl) ?_
  refine lv_iconst (v := (1 : Int32)) hx hb dL_law_342 (by decide) ?_
  refine lv_iadd hx hb dL_law_343 ?_
  refine va_sld hx hb hX hbl hbA hS h1 dL_law_344 ?_
  refine lv_aload_n hx hb dL_law_345 rfl (lv_at hl 0 rfl) ?_
  refine lv_iload_n hx hb dL_law_346 rfl (lv_at hl 3 rfl) ?_
  refine lv_iconst (v := (2 : Int32)) hx hb dL_law_347 (by decide) ?_
  refine lv_iadd hx hb dL_law_348 ?_
  refine va_sld hx hb hX hbl hbA hS h2 dL_law_349 ?_
  have hPc := rightP hP
  have hDc := rightD hD
  have hFc := freeS hDc hS hA
  refine va_calli (va_runV (As := [.int (xs (Int32.toNatClampNeg (i + (1 : Int32)))), .int (xs (Int32.toNatClampNeg (i + (2 : Int32))))]) (rest := [.int v]) ⟨hx, hb, hml, hown, hG⟩ (c_X7_task l D cI cZ am M (xs (Int32.toNatClampNeg (i + (1 : Int32)))) (xs (Int32.toNatClampNeg (i + (2 : Int32)))) H.size f7) (cwV 2 hG (gV g_697 g_698 g_699 g_77 g_700) rfl rfl rfl (by decide +kernel) ⟨Nat.le_of_ble_eq_true rfl, Nat.le_of_ble_eq_true rfl⟩) ⟨pre_blind, va_recv hK hPc (ci := 7) (q0 := 0) rfl rfl, fun U hU hW => ⟨rfl, pre_of hPc hK hDc hnw hU hW⟩⟩ rfl rfl hl.1 rfl (lv_room (Nat.le_of_ble_eq_true rfl)) dL_law_350 ⟨Nat.le_of_ble_eq_true rfl, Nat.le_of_ble_eq_true rfl⟩) hS (fun q _ h => hFc q h) hFc (fun v6 u t H locs ht hvm hw hB hz1 hk1 hS => ?_)
  have hw := hw.symm; subst hw
  obtain ⟨hP1, hD1⟩ := hB
  rw [ht] at hP1
  obtain ⟨hP, hD⟩ := joinR hP hD hk1 hFc hP1 hD1
  refine lv_icmp_eq (tgt := 991) hx hb dL_law_353 (by decide) (fun cc => ?_) (fun cc => ?_)
  · exact K a C M _ _ _ hR2 hP hD hS hl
  · exact absurd rfl cc
set_option maxHeartbeats 4000000 in
set_option maxRecDepth 100000 in
theorem law_case_8 {p : Program} {l : Launch} {e : Env} {s : State} {m : MethodId} {below : List Frame} {meth : Method} {c : Code} {D : va_G} {cI cZ : ClassId} {b L : Nat} {xs : Nat → Int32} (C0 : lw_At p s m meth c b L xs) (hK : va_K D vwCl (TY cI cZ) s) (hnw : nwA s) {am : Nat → Nat} {i : Int32} (h1 : vp_in (i + 1) L) (h2 : vp_in (i + 2) L) (h3 : vp_in (i + 3) L) (a : Nat → Nat → Nat) (C : CC) (M : HC) (hR : Rel C M) (K : ∀ (a : Nat → Nat → Nat) (C : CC) (M : HC) (H : Heap) (locs : List Loc) (ls : Array Slot), Rel C M → va_P D vwCl (cW cI a C ++ kM cI cZ am M) H → va_D (fun q : Nat => s.heap.size ≤ q) (cW cI a C ++ kM cI cZ am M) → va_S (fun q : Nat => s.heap.size ≤ q) s.heap H locs → lv_has ls 4 [(0, .ref b), (1, .ref (a 0 0)), (2, .ref (am 0)), (3, .int i)] → W p l e room_1 s m #[Value.ref b] below meth c H locs 72 1324 (lw_Z below #[Value.ref b] s) (F0 m 991 ls [])) (H : Heap) (locs : List Loc) (ls : Array Slot) (hP : va_P D vwCl (cW cI a C ++ kM cI cZ am M) H) (hD : va_D (fun q : Nat => s.heap.size ≤ q) (cW cI a C ++ kM cI cZ am M)) (hS : va_S (fun q : Nat => s.heap.size ≤ q) s.heap H locs) (hl : lv_has ls 4 [(0, .ref b), (1, .ref (a 0 0)), (2, .ref (am 0)), (3, .int i)]) : W p l e room_1 s m #[Value.ref b] below meth c H locs 72 1324 (lw_Z below #[Value.ref b] s) (F0 m 358 ls []) := by
  obtain ⟨hx, hb, hr, hml, hown, hts, hX, hbl, hlocks, hgv⟩ := C0
  have hA : ∀ q : Nat, s.heap.size ≤ q → (fun q : Nat => s.heap.size ≤ q) q := fun _ h => h
  have hbA : ¬ (fun q : Nat => s.heap.size ≤ q) b := Nat.not_le.mpr hbl
  have hG : ∀ w ∈ GW, w.before #[Value.ref b] s = true := fun w h => hts w (GW_sub w h)
  obtain ⟨v, f6, f7, hR2⟩ := op_trick hR (xs (Int32.toNatClampNeg (i + (1 : Int32)))) (xs (Int32.toNatClampNeg (i + (2 : Int32))))
  refine lv_aload_n hx hb dL_law_358 rfl (lv_at hl 1 rfl) ?_
  refine lv_aload_n hx hb dL_law_359 rfl (lv_at hl 0 rfl) ?_
  refine lv_iload_n hx hb dL_law_360 rfl (lv_at hl 3 rfl) ?_
  refine lv_iconst (v := (1 : Int32)) hx hb dL_law_361 (by decide) ?_
  refine lv_iadd hx hb dL_law_362 ?_
  refine va_sld hx hb hX hbl hbA hS h1 dL_law_363 ?_
  refine lv_aload_n hx hb dL_law_364 rfl (lv_at hl 0 rfl) ?_
  refine lv_iload_n hx hb dL_law_365 rfl (lv_at hl 3 rfl) ?_
  refine lv_iconst (v := (2 : Int32)) hx hb dL_law_366 (by decide) ?_
  refine lv_iadd hx hb dL_law_367 ?_
  refine va_sld hx hb hX hbl hbA hS h2 dL_law_368 ?_
  have hPc := leftP hP
  have hDc := leftD hD
  have hFc := freeS hDc hS hA
  refine va_calli (va_runV (As := [.int (xs (Int32.toNatClampNeg (i + (1 : Int32)))), .int (xs (Int32.toNatClampNeg (i + (2 : Int32))))]) (rest := []) ⟨hx, hb, hml, hown, hG⟩ (c_X6_trick l D cI cZ a C (xs (Int32.toNatClampNeg (i + (1 : Int32)))) (xs (Int32.toNatClampNeg (i + (2 : Int32)))) H.size f6) (cwV 2 hG (gV g_362 g_363 g_364 g_70 g_365) rfl rfl rfl (by decide +kernel) ⟨Nat.le_of_ble_eq_true rfl, Nat.le_of_ble_eq_true rfl⟩) ⟨pre_blind, va_recv hK hPc (ci := 6) (q0 := 0) rfl rfl, fun U hU hW => ⟨rfl, pre_of hPc hK hDc hnw hU hW⟩⟩ rfl rfl hl.1 rfl (lv_room (Nat.le_of_ble_eq_true rfl)) dL_law_369 ⟨Nat.le_of_ble_eq_true rfl, Nat.le_of_ble_eq_true rfl⟩) hS (fun q _ h => hFc q h) hFc (fun v5 u t H locs ht hvm hw hB hz1 hk1 hS => ?_)
  have hw := hw.symm; subst hw
  obtain ⟨hP1, hD1⟩ := hB
  rw [ht] at hP1
  obtain ⟨hP, hD⟩ := joinL hP hD hk1 hFc hP1 hD1
  refine lv_aload_n hx hb dL_law_372 rfl (lv_at hl 2 rfl) ?_
  refine lv_aload_n hx hb dL_law_373 rfl (lv_at hl 0 rfl) ?_
  refine lv_iload_n hx hb dL_law_374 rfl (lv_at hl 3 rfl) ?_
  refine lv_iconst (v := (1 : Int32)) hx hb dL_law_375 (by decide) ?_
  refine lv_iadd hx hb dL_law_376 ?_
  refine va_sld hx hb hX hbl hbA hS h1 dL_law_377 ?_
  refine lv_aload_n hx hb dL_law_378 rfl (lv_at hl 0 rfl) ?_
  refine lv_iload_n hx hb dL_law_379 rfl (lv_at hl 3 rfl) ?_
  refine lv_iconst (v := (2 : Int32)) hx hb dL_law_380 (by decide) ?_
  refine lv_iadd hx hb dL_law_381 ?_
  refine va_sld hx hb hX hbl hbA hS h2 dL_law_382 ?_
  have hPc := rightP hP
  have hDc := rightD hD
  have hFc := freeS hDc hS hA
  refine va_calli (va_runV (As := [.int (xs (Int32.toNatClampNeg (i + (1 : Int32)))), .int (xs (Int32.toNatClampNeg (i + (2 : Int32))))]) (rest := [.int v]) ⟨hx, hb, hml, hown, hG⟩ (c_X7_trick l D cI cZ am M (xs (Int32.toNatClampNeg (i + (1 : Int32)))) (xs (Int32.toNatClampNeg (i + (2 : Int32)))) H.size f7) (cwV 2 hG (gV g_708 g_709 g_710 g_77 g_711) rfl rfl rfl (by decide +kernel) ⟨Nat.le_of_ble_eq_true rfl, Nat.le_of_ble_eq_true rfl⟩) ⟨pre_blind, va_recv hK hPc (ci := 7) (q0 := 0) rfl rfl, fun U hU hW => ⟨rfl, pre_of hPc hK hDc hnw hU hW⟩⟩ rfl rfl hl.1 rfl (lv_room (Nat.le_of_ble_eq_true rfl)) dL_law_383 ⟨Nat.le_of_ble_eq_true rfl, Nat.le_of_ble_eq_true rfl⟩) hS (fun q _ h => hFc q h) hFc (fun v6 u t H locs ht hvm hw hB hz1 hk1 hS => ?_)
  have hw := hw.symm; subst hw
  obtain ⟨hP1, hD1⟩ := hB
  rw [ht] at hP1
  obtain ⟨hP, hD⟩ := joinR hP hD hk1 hFc hP1 hD1
  refine lv_icmp_eq (tgt := 991) hx hb dL_law_386 (by decide) (fun cc => ?_) (fun cc => ?_)
  · exact K a C M _ _ _ hR2 hP hD hS hl
  · exact absurd rfl cc
set_option maxHeartbeats 4000000 in
set_option maxRecDepth 100000 in
theorem law_case_9 {p : Program} {l : Launch} {e : Env} {s : State} {m : MethodId} {below : List Frame} {meth : Method} {c : Code} {D : va_G} {cI cZ : ClassId} {b L : Nat} {xs : Nat → Int32} (C0 : lw_At p s m meth c b L xs) (hK : va_K D vwCl (TY cI cZ) s) (hnw : nwA s) {am : Nat → Nat} {i : Int32} (h1 : vp_in (i + 1) L) (h2 : vp_in (i + 2) L) (h3 : vp_in (i + 3) L) (a : Nat → Nat → Nat) (C : CC) (M : HC) (hR : Rel C M) (K : ∀ (a : Nat → Nat → Nat) (C : CC) (M : HC) (H : Heap) (locs : List Loc) (ls : Array Slot), Rel C M → va_P D vwCl (cW cI a C ++ kM cI cZ am M) H → va_D (fun q : Nat => s.heap.size ≤ q) (cW cI a C ++ kM cI cZ am M) → va_S (fun q : Nat => s.heap.size ≤ q) s.heap H locs → lv_has ls 4 [(0, .ref b), (1, .ref (a 0 0)), (2, .ref (am 0)), (3, .int i)] → W p l e room_1 s m #[Value.ref b] below meth c H locs 72 1324 (lw_Z below #[Value.ref b] s) (F0 m 991 ls [])) (H : Heap) (locs : List Loc) (ls : Array Slot) (hP : va_P D vwCl (cW cI a C ++ kM cI cZ am M) H) (hD : va_D (fun q : Nat => s.heap.size ≤ q) (cW cI a C ++ kM cI cZ am M)) (hS : va_S (fun q : Nat => s.heap.size ≤ q) s.heap H locs) (hl : lv_has ls 4 [(0, .ref b), (1, .ref (a 0 0)), (2, .ref (am 0)), (3, .int i)]) : W p l e room_1 s m #[Value.ref b] below meth c H locs 72 1324 (lw_Z below #[Value.ref b] s) (F0 m 391 ls []) := by
  obtain ⟨hx, hb, hr, hml, hown, hts, hX, hbl, hlocks, hgv⟩ := C0
  have hA : ∀ q : Nat, s.heap.size ≤ q → (fun q : Nat => s.heap.size ≤ q) q := fun _ h => h
  have hbA : ¬ (fun q : Nat => s.heap.size ≤ q) b := Nat.not_le.mpr hbl
  have hG : ∀ w ∈ GW, w.before #[Value.ref b] s = true := fun w h => hts w (GW_sub w h)
  obtain ⟨v, C2, M2, f6, f7, hR2⟩ := op_read hR (xs (Int32.toNatClampNeg (i + (1 : Int32)))) (xs (Int32.toNatClampNeg (i + (2 : Int32))))
  refine lv_aload_n hx hb dL_law_391 rfl (lv_at hl 1 rfl) ?_
  refine lv_aload_n hx hb dL_law_392 rfl (lv_at hl 0 rfl) ?_
  refine lv_iload_n hx hb dL_law_393 rfl (lv_at hl 3 rfl) ?_
  refine lv_iconst (v := (1 : Int32)) hx hb dL_law_394 (by decide) ?_
  refine lv_iadd hx hb dL_law_395 ?_
  refine va_sld hx hb hX hbl hbA hS h1 dL_law_396 ?_
  refine lv_aload_n hx hb dL_law_397 rfl (lv_at hl 0 rfl) ?_
  refine lv_iload_n hx hb dL_law_398 rfl (lv_at hl 3 rfl) ?_
  refine lv_iconst (v := (2 : Int32)) hx hb dL_law_399 (by decide) ?_
  refine lv_iadd hx hb dL_law_400 ?_
  refine va_sld hx hb hX hbl hbA hS h2 dL_law_401 ?_
  have hPc := leftP hP
  have hDc := leftD hD
  have hFc := freeS hDc hS hA
  refine va_calli (va_runV (As := [.int (xs (Int32.toNatClampNeg (i + (1 : Int32)))), .int (xs (Int32.toNatClampNeg (i + (2 : Int32))))]) (rest := []) ⟨hx, hb, hml, hown, hG⟩ (c_X6_read l D cI cZ a C (xs (Int32.toNatClampNeg (i + (1 : Int32)))) (xs (Int32.toNatClampNeg (i + (2 : Int32)))) H.size f6) (cwV 2 hG (gV g_366 g_367 g_368 g_70 g_369) rfl rfl rfl (by decide +kernel) ⟨Nat.le_of_ble_eq_true rfl, Nat.le_of_ble_eq_true rfl⟩) ⟨pre_blind, va_recv hK hPc (ci := 6) (q0 := 0) rfl rfl, fun U hU hW => ⟨rfl, pre_of hPc hK hDc hnw hU hW⟩⟩ rfl rfl hl.1 rfl (lv_room (Nat.le_of_ble_eq_true rfl)) dL_law_402 ⟨Nat.le_of_ble_eq_true rfl, Nat.le_of_ble_eq_true rfl⟩) hS (fun q _ h => hFc q h) hFc (fun v5 u t H locs ht hvm hw hB hz1 hk1 hS => ?_)
  obtain ⟨hw1, hw2⟩ := hw
  have hw1 := hw1.symm
  have hw2 := hw2.symm
  subst hw1
  subst hw2
  obtain ⟨hP1, hD1⟩ := hB
  rw [ht] at hP1
  obtain ⟨hP, hD⟩ := joinL hP hD hk1 hFc hP1 hD1
  refine lv_aload_n hx hb dL_law_405 rfl (lv_at hl 2 rfl) ?_
  refine lv_aload_n hx hb dL_law_406 rfl (lv_at hl 0 rfl) ?_
  refine lv_iload_n hx hb dL_law_407 rfl (lv_at hl 3 rfl) ?_
  refine lv_iconst (v := (1 : Int32)) hx hb dL_law_408 (by decide) ?_
  refine lv_iadd hx hb dL_law_409 ?_
  refine va_sld hx hb hX hbl hbA hS h1 dL_law_410 ?_
  refine lv_aload_n hx hb dL_law_411 rfl (lv_at hl 0 rfl) ?_
  refine lv_iload_n hx hb dL_law_412 rfl (lv_at hl 3 rfl) ?_
  refine lv_iconst (v := (2 : Int32)) hx hb dL_law_413 (by decide) ?_
  refine lv_iadd hx hb dL_law_414 ?_
  refine va_sld hx hb hX hbl hbA hS h2 dL_law_415 ?_
  have hPc := rightP hP
  have hDc := rightD hD
  have hFc := freeS hDc hS hA
  refine va_calli (va_runV (As := [.int (xs (Int32.toNatClampNeg (i + (1 : Int32)))), .int (xs (Int32.toNatClampNeg (i + (2 : Int32))))]) (rest := [.int v]) ⟨hx, hb, hml, hown, hG⟩ (c_X7_read l D cI cZ am M (xs (Int32.toNatClampNeg (i + (1 : Int32)))) (xs (Int32.toNatClampNeg (i + (2 : Int32)))) H.size f7) (cwV 2 hG (gV g_713 g_714 g_715 g_77 g_716) rfl rfl rfl (by decide +kernel) ⟨Nat.le_of_ble_eq_true rfl, Nat.le_of_ble_eq_true rfl⟩) ⟨pre_blind, va_recv hK hPc (ci := 7) (q0 := 0) rfl rfl, fun U hU hW => ⟨rfl, pre_of hPc hK hDc hnw hU hW⟩⟩ rfl rfl hl.1 rfl (lv_room (Nat.le_of_ble_eq_true rfl)) dL_law_416 ⟨Nat.le_of_ble_eq_true rfl, Nat.le_of_ble_eq_true rfl⟩) hS (fun q _ h => hFc q h) hFc (fun v6 u t H locs ht hvm hw hB hz1 hk1 hS => ?_)
  obtain ⟨hw1, hw2⟩ := hw
  have hw1 := hw1.symm
  have hw2 := hw2.symm
  subst hw1
  subst hw2
  obtain ⟨hP1, hD1⟩ := hB
  rw [ht] at hP1
  obtain ⟨hP, hD⟩ := joinR hP hD hk1 hFc hP1 hD1
  refine lv_icmp_eq (tgt := 991) hx hb dL_law_419 (by decide) (fun cc => ?_) (fun cc => ?_)
  · exact K a C2 M2 _ _ _ hR2 hP hD hS hl
  · exact absurd rfl cc
set_option maxHeartbeats 4000000 in
set_option maxRecDepth 100000 in
theorem law_case_10 {p : Program} {l : Launch} {e : Env} {s : State} {m : MethodId} {below : List Frame} {meth : Method} {c : Code} {D : va_G} {cI cZ : ClassId} {b L : Nat} {xs : Nat → Int32} (C0 : lw_At p s m meth c b L xs) (hK : va_K D vwCl (TY cI cZ) s) (hnw : nwA s) {am : Nat → Nat} {i : Int32} (h1 : vp_in (i + 1) L) (h2 : vp_in (i + 2) L) (h3 : vp_in (i + 3) L) (a : Nat → Nat → Nat) (C : CC) (M : HC) (hR : Rel C M) (K : ∀ (a : Nat → Nat → Nat) (C : CC) (M : HC) (H : Heap) (locs : List Loc) (ls : Array Slot), Rel C M → va_P D vwCl (cW cI a C ++ kM cI cZ am M) H → va_D (fun q : Nat => s.heap.size ≤ q) (cW cI a C ++ kM cI cZ am M) → va_S (fun q : Nat => s.heap.size ≤ q) s.heap H locs → lv_has ls 4 [(0, .ref b), (1, .ref (a 0 0)), (2, .ref (am 0)), (3, .int i)] → W p l e room_1 s m #[Value.ref b] below meth c H locs 72 1324 (lw_Z below #[Value.ref b] s) (F0 m 991 ls [])) (H : Heap) (locs : List Loc) (ls : Array Slot) (hP : va_P D vwCl (cW cI a C ++ kM cI cZ am M) H) (hD : va_D (fun q : Nat => s.heap.size ≤ q) (cW cI a C ++ kM cI cZ am M)) (hS : va_S (fun q : Nat => s.heap.size ≤ q) s.heap H locs) (hl : lv_has ls 4 [(0, .ref b), (1, .ref (a 0 0)), (2, .ref (am 0)), (3, .int i)]) : W p l e room_1 s m #[Value.ref b] below meth c H locs 72 1324 (lw_Z below #[Value.ref b] s) (F0 m 424 ls []) := by
  obtain ⟨hx, hb, hr, hml, hown, hts, hX, hbl, hlocks, hgv⟩ := C0
  have hA : ∀ q : Nat, s.heap.size ≤ q → (fun q : Nat => s.heap.size ≤ q) q := fun _ h => h
  have hbA : ¬ (fun q : Nat => s.heap.size ≤ q) b := Nat.not_le.mpr hbl
  have hG : ∀ w ∈ GW, w.before #[Value.ref b] s = true := fun w h => hts w (GW_sub w h)
  obtain ⟨v, C2, M2, f6, f7, hR2⟩ := op_rumour hR (xs (Int32.toNatClampNeg (i + (1 : Int32))))
  refine lv_aload_n hx hb dL_law_424 rfl (lv_at hl 1 rfl) ?_
  refine lv_aload_n hx hb dL_law_425 rfl (lv_at hl 0 rfl) ?_
  refine lv_iload_n hx hb dL_law_426 rfl (lv_at hl 3 rfl) ?_
  refine lv_iconst (v := (1 : Int32)) hx hb dL_law_427 (by decide) ?_
  refine lv_iadd hx hb dL_law_428 ?_
  refine va_sld hx hb hX hbl hbA hS h1 dL_law_429 ?_
  have hPc := leftP hP
  have hDc := leftD hD
  have hFc := freeS hDc hS hA
  refine va_calli (va_runV (As := [.int (xs (Int32.toNatClampNeg (i + (1 : Int32))))]) (rest := []) ⟨hx, hb, hml, hown, hG⟩ (c_X6_rumour l D cI cZ a C (xs (Int32.toNatClampNeg (i + (1 : Int32)))) H.size f6) (cwV 1 hG (gV g_376 g_377 g_378 g_70 g_379) rfl rfl rfl (by decide +kernel) ⟨Nat.le_of_ble_eq_true rfl, Nat.le_of_ble_eq_true rfl⟩) ⟨pre_blind, va_recv hK hPc (ci := 6) (q0 := 0) rfl rfl, fun U hU hW => ⟨rfl, pre_of hPc hK hDc hnw hU hW⟩⟩ rfl rfl hl.1 rfl (lv_room (Nat.le_of_ble_eq_true rfl)) dL_law_430 ⟨Nat.le_of_ble_eq_true rfl, Nat.le_of_ble_eq_true rfl⟩) hS (fun q _ h => hFc q h) hFc (fun v5 u t H locs ht hvm hw hB hz1 hk1 hS => ?_)
  obtain ⟨hw1, hw2⟩ := hw
  have hw1 := hw1.symm
  have hw2 := hw2.symm
  subst hw1
  subst hw2
  obtain ⟨hP1, hD1⟩ := hB
  rw [ht] at hP1
  obtain ⟨hP, hD⟩ := joinL hP hD hk1 hFc hP1 hD1
  refine lv_aload_n hx hb dL_law_433 rfl (lv_at hl 2 rfl) ?_
  refine lv_aload_n hx hb dL_law_434 rfl (lv_at hl 0 rfl) ?_
  refine lv_iload_n hx hb dL_law_435 rfl (lv_at hl 3 rfl) ?_
  refine lv_iconst (v := (1 : Int32)) hx hb dL_law_436 (by decide) ?_
  refine lv_iadd hx hb dL_law_437 ?_
  refine va_sld hx hb hX hbl hbA hS h1 dL_law_438 ?_
  have hPc := rightP hP
  have hDc := rightD hD
  have hFc := freeS hDc hS hA
  refine va_calli (va_runV (As := [.int (xs (Int32.toNatClampNeg (i + (1 : Int32))))]) (rest := [.int v]) ⟨hx, hb, hml, hown, hG⟩ (c_X7_rumour l D cI cZ am M (xs (Int32.toNatClampNeg (i + (1 : Int32)))) H.size f7) (cwV 1 hG (gV g_723 g_724 g_725 g_77 g_726) rfl rfl rfl (by decide +kernel) ⟨Nat.le_of_ble_eq_true rfl, Nat.le_of_ble_eq_true rfl⟩) ⟨pre_blind, va_recv hK hPc (ci := 7) (q0 := 0) rfl rfl, fun U hU hW => ⟨rfl, pre_of hPc hK hDc hnw hU hW⟩⟩ rfl rfl hl.1 rfl (lv_room (Nat.le_of_ble_eq_true rfl)) dL_law_439 ⟨Nat.le_of_ble_eq_true rfl, Nat.le_of_ble_eq_true rfl⟩) hS (fun q _ h => hFc q h) hFc (fun v6 u t H locs ht hvm hw hB hz1 hk1 hS => ?_)
  obtain ⟨hw1, hw2⟩ := hw
  have hw1 := hw1.symm
  have hw2 := hw2.symm
  subst hw1
  subst hw2
  obtain ⟨hP1, hD1⟩ := hB
  rw [ht] at hP1
  obtain ⟨hP, hD⟩ := joinR hP hD hk1 hFc hP1 hD1
  refine lv_icmp_eq (tgt := 991) hx hb dL_law_442 (by decide) (fun cc => ?_) (fun cc => ?_)
  · exact K a C2 M2 _ _ _ hR2 hP hD hS hl
  · exact absurd rfl cc
set_option maxHeartbeats 4000000 in
set_option maxRecDepth 100000 in
theorem law_case_11 {p : Program} {l : Launch} {e : Env} {s : State} {m : MethodId} {below : List Frame} {meth : Method} {c : Code} {D : va_G} {cI cZ : ClassId} {b L : Nat} {xs : Nat → Int32} (C0 : lw_At p s m meth c b L xs) (hK : va_K D vwCl (TY cI cZ) s) (hnw : nwA s) {am : Nat → Nat} {i : Int32} (h1 : vp_in (i + 1) L) (h2 : vp_in (i + 2) L) (h3 : vp_in (i + 3) L) (a : Nat → Nat → Nat) (C : CC) (M : HC) (hR : Rel C M) (K : ∀ (a : Nat → Nat → Nat) (C : CC) (M : HC) (H : Heap) (locs : List Loc) (ls : Array Slot), Rel C M → va_P D vwCl (cW cI a C ++ kM cI cZ am M) H → va_D (fun q : Nat => s.heap.size ≤ q) (cW cI a C ++ kM cI cZ am M) → va_S (fun q : Nat => s.heap.size ≤ q) s.heap H locs → lv_has ls 4 [(0, .ref b), (1, .ref (a 0 0)), (2, .ref (am 0)), (3, .int i)] → W p l e room_1 s m #[Value.ref b] below meth c H locs 72 1324 (lw_Z below #[Value.ref b] s) (F0 m 991 ls [])) (H : Heap) (locs : List Loc) (ls : Array Slot) (hP : va_P D vwCl (cW cI a C ++ kM cI cZ am M) H) (hD : va_D (fun q : Nat => s.heap.size ≤ q) (cW cI a C ++ kM cI cZ am M)) (hS : va_S (fun q : Nat => s.heap.size ≤ q) s.heap H locs) (hl : lv_has ls 4 [(0, .ref b), (1, .ref (a 0 0)), (2, .ref (am 0)), (3, .int i)]) : W p l e room_1 s m #[Value.ref b] below meth c H locs 72 1324 (lw_Z below #[Value.ref b] s) (F0 m 447 ls []) := by
  obtain ⟨hx, hb, hr, hml, hown, hts, hX, hbl, hlocks, hgv⟩ := C0
  have hA : ∀ q : Nat, s.heap.size ≤ q → (fun q : Nat => s.heap.size ≤ q) q := fun _ h => h
  have hbA : ¬ (fun q : Nat => s.heap.size ≤ q) b := Nat.not_le.mpr hbl
  have hG : ∀ w ∈ GW, w.before #[Value.ref b] s = true := fun w h => hts w (GW_sub w h)
  obtain ⟨v, C2, M2, f6, f7, hR2⟩ := op_inspect hR (xs (Int32.toNatClampNeg (i + (1 : Int32)))) (xs (Int32.toNatClampNeg (i + (2 : Int32))))
  refine lv_aload_n hx hb dL_law_447 rfl (lv_at hl 1 rfl) ?_
  refine lv_aload_n hx hb dL_law_448 rfl (lv_at hl 0 rfl) ?_
  refine lv_iload_n hx hb dL_law_449 rfl (lv_at hl 3 rfl) ?_
  refine lv_iconst (v := (1 : Int32)) hx hb dL_law_450 (by decide) ?_
  refine lv_iadd hx hb dL_law_451 ?_
  refine va_sld hx hb hX hbl hbA hS h1 dL_law_452 ?_
  refine lv_aload_n hx hb dL_law_453 rfl (lv_at hl 0 rfl) ?_
  refine lv_iload_n hx hb dL_law_454 rfl (lv_at hl 3 rfl) ?_
  refine lv_iconst (v := (2 : Int32)) hx hb dL_law_455 (by decide) ?_
  refine lv_iadd hx hb dL_law_456 ?_
  refine va_sld hx hb hX hbl hbA hS h2 dL_law_457 ?_
  have hPc := leftP hP
  have hDc := leftD hD
  have hFc := freeS hDc hS hA
  refine va_calli (va_runV (As := [.int (xs (Int32.toNatClampNeg (i + (1 : Int32)))), .int (xs (Int32.toNatClampNeg (i + (2 : Int32))))]) (rest := []) ⟨hx, hb, hml, hown, hG⟩ (c_X6_inspect l D cI cZ a C (xs (Int32.toNatClampNeg (i + (1 : Int32)))) (xs (Int32.toNatClampNeg (i + (2 : Int32)))) H.size f6) (cwV 2 hG (gV g_387 g_388 g_389 g_70 g_390) rfl rfl rfl (by decide +kernel) ⟨Nat.le_of_ble_eq_true rfl, Nat.le_of_ble_eq_true rfl⟩) ⟨pre_blind, va_recv hK hPc (ci := 6) (q0 := 0) rfl rfl, fun U hU hW => ⟨rfl, pre_of hPc hK hDc hnw hU hW⟩⟩ rfl rfl hl.1 rfl (lv_room (Nat.le_of_ble_eq_true rfl)) dL_law_458 ⟨Nat.le_of_ble_eq_true rfl, Nat.le_of_ble_eq_true rfl⟩) hS (fun q _ h => hFc q h) hFc (fun v5 u t H locs ht hvm hw hB hz1 hk1 hS => ?_)
  obtain ⟨hw1, hw2⟩ := hw
  have hw1 := hw1.symm
  have hw2 := hw2.symm
  subst hw1
  subst hw2
  obtain ⟨hP1, hD1⟩ := hB
  rw [ht] at hP1
  obtain ⟨hP, hD⟩ := joinL hP hD hk1 hFc hP1 hD1
  refine lv_aload_n hx hb dL_law_461 rfl (lv_at hl 2 rfl) ?_
  refine lv_aload_n hx hb dL_law_462 rfl (lv_at hl 0 rfl) ?_
  refine lv_iload_n hx hb dL_law_463 rfl (lv_at hl 3 rfl) ?_
  refine lv_iconst (v := (1 : Int32)) hx hb dL_law_464 (by decide) ?_
  refine lv_iadd hx hb dL_law_465 ?_
  refine va_sld hx hb hX hbl hbA hS h1 dL_law_466 ?_
  refine lv_aload_n hx hb dL_law_467 rfl (lv_at hl 0 rfl) ?_
  refine lv_iload_n hx hb dL_law_468 rfl (lv_at hl 3 rfl) ?_
  refine lv_iconst (v := (2 : Int32)) hx hb dL_law_469 (by decide) ?_
  refine lv_iadd hx hb dL_law_470 ?_
  refine va_sld hx hb hX hbl hbA hS h2 dL_law_471 ?_
  have hPc := rightP hP
  have hDc := rightD hD
  have hFc := freeS hDc hS hA
  refine va_calli (va_runV (As := [.int (xs (Int32.toNatClampNeg (i + (1 : Int32)))), .int (xs (Int32.toNatClampNeg (i + (2 : Int32))))]) (rest := [.int v]) ⟨hx, hb, hml, hown, hG⟩ (c_X7_inspect l D cI cZ am M (xs (Int32.toNatClampNeg (i + (1 : Int32)))) (xs (Int32.toNatClampNeg (i + (2 : Int32)))) H.size f7) (cwV 2 hG (gV g_730 g_731 g_732 g_77 g_733) rfl rfl rfl (by decide +kernel) ⟨Nat.le_of_ble_eq_true rfl, Nat.le_of_ble_eq_true rfl⟩) ⟨pre_blind, va_recv hK hPc (ci := 7) (q0 := 0) rfl rfl, fun U hU hW => ⟨rfl, pre_of hPc hK hDc hnw hU hW⟩⟩ rfl rfl hl.1 rfl (lv_room (Nat.le_of_ble_eq_true rfl)) dL_law_472 ⟨Nat.le_of_ble_eq_true rfl, Nat.le_of_ble_eq_true rfl⟩) hS (fun q _ h => hFc q h) hFc (fun v6 u t H locs ht hvm hw hB hz1 hk1 hS => ?_)
  obtain ⟨hw1, hw2⟩ := hw
  have hw1 := hw1.symm
  have hw2 := hw2.symm
  subst hw1
  subst hw2
  obtain ⟨hP1, hD1⟩ := hB
  rw [ht] at hP1
  obtain ⟨hP, hD⟩ := joinR hP hD hk1 hFc hP1 hD1
  refine lv_icmp_eq (tgt := 991) hx hb dL_law_475 (by decide) (fun cc => ?_) (fun cc => ?_)
  · exact K a C2 M2 _ _ _ hR2 hP hD hS hl
  · exact absurd rfl cc
set_option maxHeartbeats 4000000 in
set_option maxRecDepth 100000 in
theorem law_case_12 {p : Program} {l : Launch} {e : Env} {s : State} {m : MethodId} {below : List Frame} {meth : Method} {c : Code} {D : va_G} {cI cZ : ClassId} {b L : Nat} {xs : Nat → Int32} (C0 : lw_At p s m meth c b L xs) (hK : va_K D vwCl (TY cI cZ) s) (hnw : nwA s) {am : Nat → Nat} {i : Int32} (h1 : vp_in (i + 1) L) (h2 : vp_in (i + 2) L) (h3 : vp_in (i + 3) L) (a : Nat → Nat → Nat) (C : CC) (M : HC) (hR : Rel C M) (K : ∀ (a : Nat → Nat → Nat) (C : CC) (M : HC) (H : Heap) (locs : List Loc) (ls : Array Slot), Rel C M → va_P D vwCl (cW cI a C ++ kM cI cZ am M) H → va_D (fun q : Nat => s.heap.size ≤ q) (cW cI a C ++ kM cI cZ am M) → va_S (fun q : Nat => s.heap.size ≤ q) s.heap H locs → lv_has ls 4 [(0, .ref b), (1, .ref (a 0 0)), (2, .ref (am 0)), (3, .int i)] → W p l e room_1 s m #[Value.ref b] below meth c H locs 72 1324 (lw_Z below #[Value.ref b] s) (F0 m 991 ls [])) (H : Heap) (locs : List Loc) (ls : Array Slot) (hP : va_P D vwCl (cW cI a C ++ kM cI cZ am M) H) (hD : va_D (fun q : Nat => s.heap.size ≤ q) (cW cI a C ++ kM cI cZ am M)) (hS : va_S (fun q : Nat => s.heap.size ≤ q) s.heap H locs) (hl : lv_has ls 4 [(0, .ref b), (1, .ref (a 0 0)), (2, .ref (am 0)), (3, .int i)]) : W p l e room_1 s m #[Value.ref b] below meth c H locs 72 1324 (lw_Z below #[Value.ref b] s) (F0 m 480 ls []) := by
  obtain ⟨hx, hb, hr, hml, hown, hts, hX, hbl, hlocks, hgv⟩ := C0
  have hA : ∀ q : Nat, s.heap.size ≤ q → (fun q : Nat => s.heap.size ≤ q) q := fun _ h => h
  have hbA : ¬ (fun q : Nat => s.heap.size ≤ q) b := Nat.not_le.mpr hbl
  have hG : ∀ w ∈ GW, w.before #[Value.ref b] s = true := fun w h => hts w (GW_sub w h)
  obtain ⟨v, C2, M2, f6, f7, hR2⟩ := op_belt hR (xs (Int32.toNatClampNeg (i + (1 : Int32)))) (xs (Int32.toNatClampNeg (i + (2 : Int32))))
  refine lv_aload_n hx hb dL_law_480 rfl (lv_at hl 1 rfl) ?_
  refine lv_aload_n hx hb dL_law_481 rfl (lv_at hl 0 rfl) ?_
  refine lv_iload_n hx hb dL_law_482 rfl (lv_at hl 3 rfl) ?_
  refine lv_iconst (v := (1 : Int32)) hx hb dL_law_483 (by decide) ?_
  refine lv_iadd hx hb dL_law_484 ?_
  refine va_sld hx hb hX hbl hbA hS h1 dL_law_485 ?_
  refine lv_aload_n hx hb dL_law_486 rfl (lv_at hl 0 rfl) ?_
  refine lv_iload_n hx hb dL_law_487 rfl (lv_at hl 3 rfl) ?_
  refine lv_iconst (v := (2 : Int32)) hx hb dL_law_488 (by decide) ?_
  refine lv_iadd hx hb dL_law_489 ?_
  refine va_sld hx hb hX hbl hbA hS h2 dL_law_490 ?_
  have hPc := leftP hP
  have hDc := leftD hD
  have hFc := freeS hDc hS hA
  refine va_calli (va_runV (As := [.int (xs (Int32.toNatClampNeg (i + (1 : Int32)))), .int (xs (Int32.toNatClampNeg (i + (2 : Int32))))]) (rest := []) ⟨hx, hb, hml, hown, hG⟩ (c_X6_belt l D cI cZ a C (xs (Int32.toNatClampNeg (i + (1 : Int32)))) (xs (Int32.toNatClampNeg (i + (2 : Int32)))) H.size f6) (cwV 2 hG (gV g_394 g_395 g_396 g_70 g_397) rfl rfl rfl (by decide +kernel) ⟨Nat.le_of_ble_eq_true rfl, Nat.le_of_ble_eq_true rfl⟩) ⟨pre_blind, va_recv hK hPc (ci := 6) (q0 := 0) rfl rfl, fun U hU hW => ⟨rfl, pre_of hPc hK hDc hnw hU hW⟩⟩ rfl rfl hl.1 rfl (lv_room (Nat.le_of_ble_eq_true rfl)) dL_law_491 ⟨Nat.le_of_ble_eq_true rfl, Nat.le_of_ble_eq_true rfl⟩) hS (fun q _ h => hFc q h) hFc (fun v5 u t H locs ht hvm hw hB hz1 hk1 hS => ?_)
  obtain ⟨hw1, hw2⟩ := hw
  have hw1 := hw1.symm
  have hw2 := hw2.symm
  subst hw1
  subst hw2
  obtain ⟨hP1, hD1⟩ := hB
  rw [ht] at hP1
  obtain ⟨hP, hD⟩ := joinL hP hD hk1 hFc hP1 hD1
  refine lv_aload_n hx hb dL_law_494 rfl (lv_at hl 2 rfl) ?_
  refine lv_aload_n hx hb dL_law_495 rfl (lv_at hl 0 rfl) ?_
  refine lv_iload_n hx hb dL_law_496 rfl (lv_at hl 3 rfl) ?_
  refine lv_iconst (v := (1 : Int32)) hx hb dL_law_497 (by decide) ?_
  refine lv_iadd hx hb dL_law_498 ?_
  refine va_sld hx hb hX hbl hbA hS h1 dL_law_499 ?_
  refine lv_aload_n hx hb dL_law_500 rfl (lv_at hl 0 rfl) ?_
  refine lv_iload_n hx hb dL_law_501 rfl (lv_at hl 3 rfl) ?_
  refine lv_iconst (v := (2 : Int32)) hx hb dL_law_502 (by decide) ?_
  refine lv_iadd hx hb dL_law_503 ?_
  refine va_sld hx hb hX hbl hbA hS h2 dL_law_504 ?_
  have hPc := rightP hP
  have hDc := rightD hD
  have hFc := freeS hDc hS hA
  refine va_calli (va_runV (As := [.int (xs (Int32.toNatClampNeg (i + (1 : Int32)))), .int (xs (Int32.toNatClampNeg (i + (2 : Int32))))]) (rest := [.int v]) ⟨hx, hb, hml, hown, hG⟩ (c_X7_belt l D cI cZ am M (xs (Int32.toNatClampNeg (i + (1 : Int32)))) (xs (Int32.toNatClampNeg (i + (2 : Int32)))) H.size f7) (cwV 2 hG (gV g_737 g_738 g_739 g_77 g_740) rfl rfl rfl (by decide +kernel) ⟨Nat.le_of_ble_eq_true rfl, Nat.le_of_ble_eq_true rfl⟩) ⟨pre_blind, va_recv hK hPc (ci := 7) (q0 := 0) rfl rfl, fun U hU hW => ⟨rfl, pre_of hPc hK hDc hnw hU hW⟩⟩ rfl rfl hl.1 rfl (lv_room (Nat.le_of_ble_eq_true rfl)) dL_law_505 ⟨Nat.le_of_ble_eq_true rfl, Nat.le_of_ble_eq_true rfl⟩) hS (fun q _ h => hFc q h) hFc (fun v6 u t H locs ht hvm hw hB hz1 hk1 hS => ?_)
  obtain ⟨hw1, hw2⟩ := hw
  have hw1 := hw1.symm
  have hw2 := hw2.symm
  subst hw1
  subst hw2
  obtain ⟨hP1, hD1⟩ := hB
  rw [ht] at hP1
  obtain ⟨hP, hD⟩ := joinR hP hD hk1 hFc hP1 hD1
  refine lv_icmp_eq (tgt := 991) hx hb dL_law_508 (by decide) (fun cc => ?_) (fun cc => ?_)
  · exact K a C2 M2 _ _ _ hR2 hP hD hS hl
  · exact absurd rfl cc
set_option maxHeartbeats 4000000 in
set_option maxRecDepth 100000 in
theorem law_case_13 {p : Program} {l : Launch} {e : Env} {s : State} {m : MethodId} {below : List Frame} {meth : Method} {c : Code} {D : va_G} {cI cZ : ClassId} {b L : Nat} {xs : Nat → Int32} (C0 : lw_At p s m meth c b L xs) (hK : va_K D vwCl (TY cI cZ) s) (hnw : nwA s) {am : Nat → Nat} {i : Int32} (h1 : vp_in (i + 1) L) (h2 : vp_in (i + 2) L) (h3 : vp_in (i + 3) L) (a : Nat → Nat → Nat) (C : CC) (M : HC) (hR : Rel C M) (K : ∀ (a : Nat → Nat → Nat) (C : CC) (M : HC) (H : Heap) (locs : List Loc) (ls : Array Slot), Rel C M → va_P D vwCl (cW cI a C ++ kM cI cZ am M) H → va_D (fun q : Nat => s.heap.size ≤ q) (cW cI a C ++ kM cI cZ am M) → va_S (fun q : Nat => s.heap.size ≤ q) s.heap H locs → lv_has ls 4 [(0, .ref b), (1, .ref (a 0 0)), (2, .ref (am 0)), (3, .int i)] → W p l e room_1 s m #[Value.ref b] below meth c H locs 72 1324 (lw_Z below #[Value.ref b] s) (F0 m 991 ls [])) (H : Heap) (locs : List Loc) (ls : Array Slot) (hP : va_P D vwCl (cW cI a C ++ kM cI cZ am M) H) (hD : va_D (fun q : Nat => s.heap.size ≤ q) (cW cI a C ++ kM cI cZ am M)) (hS : va_S (fun q : Nat => s.heap.size ≤ q) s.heap H locs) (hl : lv_has ls 4 [(0, .ref b), (1, .ref (a 0 0)), (2, .ref (am 0)), (3, .int i)]) : W p l e room_1 s m #[Value.ref b] below meth c H locs 72 1324 (lw_Z below #[Value.ref b] s) (F0 m 513 ls []) := by
  obtain ⟨hx, hb, hr, hml, hown, hts, hX, hbl, hlocks, hgv⟩ := C0
  have hA : ∀ q : Nat, s.heap.size ≤ q → (fun q : Nat => s.heap.size ≤ q) q := fun _ h => h
  have hbA : ¬ (fun q : Nat => s.heap.size ≤ q) b := Nat.not_le.mpr hbl
  have hG : ∀ w ∈ GW, w.before #[Value.ref b] s = true := fun w h => hts w (GW_sub w h)
  obtain ⟨v, C2, M2, f6, f7, hR2⟩ := op_attempt hR (xs (Int32.toNatClampNeg (i + (1 : Int32)))) (xs (Int32.toNatClampNeg (i + (2 : Int32)))) (xs (Int32.toNatClampNeg (i + (3 : Int32))))
  refine lv_aload_n hx hb dL_law_513 rfl (lv_at hl 1 rfl) ?_
  refine lv_aload_n hx hb dL_law_514 rfl (lv_at hl 0 rfl) ?_
  refine lv_iload_n hx hb dL_law_515 rfl (lv_at hl 3 rfl) ?_
  refine lv_iconst (v := (1 : Int32)) hx hb dL_law_516 (by decide) ?_
  refine lv_iadd hx hb dL_law_517 ?_
  refine va_sld hx hb hX hbl hbA hS h1 dL_law_518 ?_
  refine lv_aload_n hx hb dL_law_519 rfl (lv_at hl 0 rfl) ?_
  refine lv_iload_n hx hb dL_law_520 rfl (lv_at hl 3 rfl) ?_
  refine lv_iconst (v := (2 : Int32)) hx hb dL_law_521 (by decide) ?_
  refine lv_iadd hx hb dL_law_522 ?_
  refine va_sld hx hb hX hbl hbA hS h2 dL_law_523 ?_
  refine lv_aload_n hx hb dL_law_524 rfl (lv_at hl 0 rfl) ?_
  refine lv_iload_n hx hb dL_law_525 rfl (lv_at hl 3 rfl) ?_
  refine lv_iconst (v := (3 : Int32)) hx hb dL_law_526 (by decide) ?_
  refine lv_iadd hx hb dL_law_527 ?_
  refine va_sld hx hb hX hbl hbA hS h3 dL_law_528 ?_
  have hPc := leftP hP
  have hDc := leftD hD
  have hFc := freeS hDc hS hA
  refine va_calli (va_runV (As := [.int (xs (Int32.toNatClampNeg (i + (1 : Int32)))), .int (xs (Int32.toNatClampNeg (i + (2 : Int32)))), .int (xs (Int32.toNatClampNeg (i + (3 : Int32))))]) (rest := []) ⟨hx, hb, hml, hown, hG⟩ (c_X6_attempt l D cI cZ a C (xs (Int32.toNatClampNeg (i + (1 : Int32)))) (xs (Int32.toNatClampNeg (i + (2 : Int32)))) (xs (Int32.toNatClampNeg (i + (3 : Int32)))) H.size f6) (cwV 3 hG (gV g_398 g_399 g_400 g_70 g_401) rfl rfl rfl (by decide +kernel) ⟨Nat.le_of_ble_eq_true rfl, Nat.le_of_ble_eq_true rfl⟩) ⟨pre_blind, va_recv hK hPc (ci := 6) (q0 := 0) rfl rfl, fun U hU hW => ⟨rfl, pre_of hPc hK hDc hnw hU hW⟩⟩ rfl rfl hl.1 rfl (lv_room (Nat.le_of_ble_eq_true rfl)) dL_law_529 ⟨Nat.le_of_ble_eq_true rfl, Nat.le_of_ble_eq_true rfl⟩) hS (fun q _ h => hFc q h) hFc (fun v5 u t H locs ht hvm hw hB hz1 hk1 hS => ?_)
  obtain ⟨hw1, hw2⟩ := hw
  have hw1 := hw1.symm
  have hw2 := hw2.symm
  subst hw1
  subst hw2
  obtain ⟨hP1, hD1⟩ := hB
  rw [ht] at hP1
  obtain ⟨hP, hD⟩ := joinL hP hD hk1 hFc hP1 hD1
  refine lv_aload_n hx hb dL_law_532 rfl (lv_at hl 2 rfl) ?_
  refine lv_aload_n hx hb dL_law_533 rfl (lv_at hl 0 rfl) ?_
  refine lv_iload_n hx hb dL_law_534 rfl (lv_at hl 3 rfl) ?_
  refine lv_iconst (v := (1 : Int32)) hx hb dL_law_535 (by decide) ?_
  refine lv_iadd hx hb dL_law_536 ?_
  refine va_sld hx hb hX hbl hbA hS h1 dL_law_537 ?_
  refine lv_aload_n hx hb dL_law_538 rfl (lv_at hl 0 rfl) ?_
  refine lv_iload_n hx hb dL_law_539 rfl (lv_at hl 3 rfl) ?_
  refine lv_iconst (v := (2 : Int32)) hx hb dL_law_540 (by decide) ?_
  refine lv_iadd hx hb dL_law_541 ?_
  refine va_sld hx hb hX hbl hbA hS h2 dL_law_542 ?_
  refine lv_aload_n hx hb dL_law_543 rfl (lv_at hl 0 rfl) ?_
  refine lv_iload_n hx hb dL_law_544 rfl (lv_at hl 3 rfl) ?_
  refine lv_iconst (v := (3 : Int32)) hx hb dL_law_545 (by decide) ?_
  refine lv_iadd hx hb dL_law_546 ?_
  refine va_sld hx hb hX hbl hbA hS h3 dL_law_547 ?_
  have hPc := rightP hP
  have hDc := rightD hD
  have hFc := freeS hDc hS hA
  refine va_calli (va_runV (As := [.int (xs (Int32.toNatClampNeg (i + (1 : Int32)))), .int (xs (Int32.toNatClampNeg (i + (2 : Int32)))), .int (xs (Int32.toNatClampNeg (i + (3 : Int32))))]) (rest := [.int v]) ⟨hx, hb, hml, hown, hG⟩ (c_X7_attempt l D cI cZ am M (xs (Int32.toNatClampNeg (i + (1 : Int32)))) (xs (Int32.toNatClampNeg (i + (2 : Int32)))) (xs (Int32.toNatClampNeg (i + (3 : Int32)))) H.size f7) (cwV 3 hG (gV g_742 g_743 g_744 g_77 g_745) rfl rfl rfl (by decide +kernel) ⟨Nat.le_of_ble_eq_true rfl, Nat.le_of_ble_eq_true rfl⟩) ⟨pre_blind, va_recv hK hPc (ci := 7) (q0 := 0) rfl rfl, fun U hU hW => ⟨rfl, pre_of hPc hK hDc hnw hU hW⟩⟩ rfl rfl hl.1 rfl (lv_room (Nat.le_of_ble_eq_true rfl)) dL_law_548 ⟨Nat.le_of_ble_eq_true rfl, Nat.le_of_ble_eq_true rfl⟩) hS (fun q _ h => hFc q h) hFc (fun v6 u t H locs ht hvm hw hB hz1 hk1 hS => ?_)
  obtain ⟨hw1, hw2⟩ := hw
  have hw1 := hw1.symm
  have hw2 := hw2.symm
  subst hw1
  subst hw2
  obtain ⟨hP1, hD1⟩ := hB
  rw [ht] at hP1
  obtain ⟨hP, hD⟩ := joinR hP hD hk1 hFc hP1 hD1
  refine lv_icmp_eq (tgt := 991) hx hb dL_law_551 (by decide) (fun cc => ?_) (fun cc => ?_)
  · exact K a C2 M2 _ _ _ hR2 hP hD hS hl
  · exact absurd rfl cc
set_option maxHeartbeats 4000000 in
set_option maxRecDepth 100000 in
theorem law_case_14 {p : Program} {l : Launch} {e : Env} {s : State} {m : MethodId} {below : List Frame} {meth : Method} {c : Code} {D : va_G} {cI cZ : ClassId} {b L : Nat} {xs : Nat → Int32} (C0 : lw_At p s m meth c b L xs) (hK : va_K D vwCl (TY cI cZ) s) (hnw : nwA s) {am : Nat → Nat} {i : Int32} (h1 : vp_in (i + 1) L) (h2 : vp_in (i + 2) L) (h3 : vp_in (i + 3) L) (a : Nat → Nat → Nat) (C : CC) (M : HC) (hR : Rel C M) (K : ∀ (a : Nat → Nat → Nat) (C : CC) (M : HC) (H : Heap) (locs : List Loc) (ls : Array Slot), Rel C M → va_P D vwCl (cW cI a C ++ kM cI cZ am M) H → va_D (fun q : Nat => s.heap.size ≤ q) (cW cI a C ++ kM cI cZ am M) → va_S (fun q : Nat => s.heap.size ≤ q) s.heap H locs → lv_has ls 4 [(0, .ref b), (1, .ref (a 0 0)), (2, .ref (am 0)), (3, .int i)] → W p l e room_1 s m #[Value.ref b] below meth c H locs 72 1324 (lw_Z below #[Value.ref b] s) (F0 m 991 ls [])) (H : Heap) (locs : List Loc) (ls : Array Slot) (hP : va_P D vwCl (cW cI a C ++ kM cI cZ am M) H) (hD : va_D (fun q : Nat => s.heap.size ≤ q) (cW cI a C ++ kM cI cZ am M)) (hS : va_S (fun q : Nat => s.heap.size ≤ q) s.heap H locs) (hl : lv_has ls 4 [(0, .ref b), (1, .ref (a 0 0)), (2, .ref (am 0)), (3, .int i)]) : W p l e room_1 s m #[Value.ref b] below meth c H locs 72 1324 (lw_Z below #[Value.ref b] s) (F0 m 556 ls []) := by
  obtain ⟨hx, hb, hr, hml, hown, hts, hX, hbl, hlocks, hgv⟩ := C0
  have hA : ∀ q : Nat, s.heap.size ≤ q → (fun q : Nat => s.heap.size ≤ q) q := fun _ h => h
  have hbA : ¬ (fun q : Nat => s.heap.size ≤ q) b := Nat.not_le.mpr hbl
  have hG : ∀ w ∈ GW, w.before #[Value.ref b] s = true := fun w h => hts w (GW_sub w h)
  obtain ⟨v, C2, M2, f6, f7, hR2⟩ := op_drift hR (xs (Int32.toNatClampNeg (i + (1 : Int32))))
  refine lv_aload_n hx hb dL_law_556 rfl (lv_at hl 1 rfl) ?_
  refine lv_aload_n hx hb dL_law_557 rfl (lv_at hl 0 rfl) ?_
  refine lv_iload_n hx hb dL_law_558 rfl (lv_at hl 3 rfl) ?_
  refine lv_iconst (v := (1 : Int32)) hx hb dL_law_559 (by decide) ?_
  refine lv_iadd hx hb dL_law_560 ?_
  refine va_sld hx hb hX hbl hbA hS h1 dL_law_561 ?_
  have hPc := leftP hP
  have hDc := leftD hD
  have hFc := freeS hDc hS hA
  refine va_calli (va_runV (As := [.int (xs (Int32.toNatClampNeg (i + (1 : Int32))))]) (rest := []) ⟨hx, hb, hml, hown, hG⟩ (c_X6_drift l D cI cZ a C (xs (Int32.toNatClampNeg (i + (1 : Int32)))) H.size f6) (cwV 1 hG (gV g_415 g_416 g_417 g_70 g_418) rfl rfl rfl (by decide +kernel) ⟨Nat.le_of_ble_eq_true rfl, Nat.le_of_ble_eq_true rfl⟩) ⟨pre_blind, va_recv hK hPc (ci := 6) (q0 := 0) rfl rfl, fun U hU hW => ⟨rfl, pre_of hPc hK hDc hnw hU hW⟩⟩ rfl rfl hl.1 rfl (lv_room (Nat.le_of_ble_eq_true rfl)) dL_law_562 ⟨Nat.le_of_ble_eq_true rfl, Nat.le_of_ble_eq_true rfl⟩) hS (fun q _ h => hFc q h) hFc (fun v5 u t H locs ht hvm hw hB hz1 hk1 hS => ?_)
  obtain ⟨hw1, hw2⟩ := hw
  have hw1 := hw1.symm
  have hw2 := hw2.symm
  subst hw1
  subst hw2
  obtain ⟨hP1, hD1⟩ := hB
  rw [ht] at hP1
  obtain ⟨hP, hD⟩ := joinL hP hD hk1 hFc hP1 hD1
  refine lv_aload_n hx hb dL_law_565 rfl (lv_at hl 2 rfl) ?_
  refine lv_aload_n hx hb dL_law_566 rfl (lv_at hl 0 rfl) ?_
  refine lv_iload_n hx hb dL_law_567 rfl (lv_at hl 3 rfl) ?_
  refine lv_iconst (v := (1 : Int32)) hx hb dL_law_568 (by decide) ?_
  refine lv_iadd hx hb dL_law_569 ?_
  refine va_sld hx hb hX hbl hbA hS h1 dL_law_570 ?_
  have hPc := rightP hP
  have hDc := rightD hD
  have hFc := freeS hDc hS hA
  refine va_calli (va_runV (As := [.int (xs (Int32.toNatClampNeg (i + (1 : Int32))))]) (rest := [.int v]) ⟨hx, hb, hml, hown, hG⟩ (c_X7_drift l D cI cZ am M (xs (Int32.toNatClampNeg (i + (1 : Int32)))) H.size f7) (cwV 1 hG (gV g_750 g_751 g_752 g_77 g_753) rfl rfl rfl (by decide +kernel) ⟨Nat.le_of_ble_eq_true rfl, Nat.le_of_ble_eq_true rfl⟩) ⟨pre_blind, va_recv hK hPc (ci := 7) (q0 := 0) rfl rfl, fun U hU hW => ⟨rfl, pre_of hPc hK hDc hnw hU hW⟩⟩ rfl rfl hl.1 rfl (lv_room (Nat.le_of_ble_eq_true rfl)) dL_law_571 ⟨Nat.le_of_ble_eq_true rfl, Nat.le_of_ble_eq_true rfl⟩) hS (fun q _ h => hFc q h) hFc (fun v6 u t H locs ht hvm hw hB hz1 hk1 hS => ?_)
  obtain ⟨hw1, hw2⟩ := hw
  have hw1 := hw1.symm
  have hw2 := hw2.symm
  subst hw1
  subst hw2
  obtain ⟨hP1, hD1⟩ := hB
  rw [ht] at hP1
  obtain ⟨hP, hD⟩ := joinR hP hD hk1 hFc hP1 hD1
  refine lv_icmp_eq (tgt := 991) hx hb dL_law_574 (by decide) (fun cc => ?_) (fun cc => ?_)
  · exact K a C2 M2 _ _ _ hR2 hP hD hS hl
  · exact absurd rfl cc
set_option maxHeartbeats 4000000 in
set_option maxRecDepth 100000 in
theorem law_case_15 {p : Program} {l : Launch} {e : Env} {s : State} {m : MethodId} {below : List Frame} {meth : Method} {c : Code} {D : va_G} {cI cZ : ClassId} {b L : Nat} {xs : Nat → Int32} (C0 : lw_At p s m meth c b L xs) (hK : va_K D vwCl (TY cI cZ) s) (hnw : nwA s) {am : Nat → Nat} {i : Int32} (h1 : vp_in (i + 1) L) (h2 : vp_in (i + 2) L) (h3 : vp_in (i + 3) L) (a : Nat → Nat → Nat) (C : CC) (M : HC) (hR : Rel C M) (K : ∀ (a : Nat → Nat → Nat) (C : CC) (M : HC) (H : Heap) (locs : List Loc) (ls : Array Slot), Rel C M → va_P D vwCl (cW cI a C ++ kM cI cZ am M) H → va_D (fun q : Nat => s.heap.size ≤ q) (cW cI a C ++ kM cI cZ am M) → va_S (fun q : Nat => s.heap.size ≤ q) s.heap H locs → lv_has ls 4 [(0, .ref b), (1, .ref (a 0 0)), (2, .ref (am 0)), (3, .int i)] → W p l e room_1 s m #[Value.ref b] below meth c H locs 72 1324 (lw_Z below #[Value.ref b] s) (F0 m 991 ls [])) (H : Heap) (locs : List Loc) (ls : Array Slot) (hP : va_P D vwCl (cW cI a C ++ kM cI cZ am M) H) (hD : va_D (fun q : Nat => s.heap.size ≤ q) (cW cI a C ++ kM cI cZ am M)) (hS : va_S (fun q : Nat => s.heap.size ≤ q) s.heap H locs) (hl : lv_has ls 4 [(0, .ref b), (1, .ref (a 0 0)), (2, .ref (am 0)), (3, .int i)]) : W p l e room_1 s m #[Value.ref b] below meth c H locs 72 1324 (lw_Z below #[Value.ref b] s) (F0 m 579 ls []) := by
  obtain ⟨hx, hb, hr, hml, hown, hts, hX, hbl, hlocks, hgv⟩ := C0
  have hA : ∀ q : Nat, s.heap.size ≤ q → (fun q : Nat => s.heap.size ≤ q) q := fun _ h => h
  have hbA : ¬ (fun q : Nat => s.heap.size ≤ q) b := Nat.not_le.mpr hbl
  have hG : ∀ w ∈ GW, w.before #[Value.ref b] s = true := fun w h => hts w (GW_sub w h)
  obtain ⟨v, C2, f6, f7, hR2⟩ := op_plan hR (xs (Int32.toNatClampNeg (i + (1 : Int32)))) (xs (Int32.toNatClampNeg (i + (2 : Int32)))) (xs (Int32.toNatClampNeg (i + (3 : Int32))))
  refine lv_aload_n hx hb dL_law_579 rfl (lv_at hl 1 rfl) ?_
  refine lv_aload_n hx hb dL_law_580 rfl (lv_at hl 0 rfl) ?_
  refine lv_iload_n hx hb dL_law_581 rfl (lv_at hl 3 rfl) ?_
  refine lv_iconst (v := (1 : Int32)) hx hb dL_law_582 (by decide) ?_
  refine lv_iadd hx hb dL_law_583 ?_
  refine va_sld hx hb hX hbl hbA hS h1 dL_law_584 ?_
  refine lv_aload_n hx hb dL_law_585 rfl (lv_at hl 0 rfl) ?_
  refine lv_iload_n hx hb dL_law_586 rfl (lv_at hl 3 rfl) ?_
  refine lv_iconst (v := (2 : Int32)) hx hb dL_law_587 (by decide) ?_
  refine lv_iadd hx hb dL_law_588 ?_
  refine va_sld hx hb hX hbl hbA hS h2 dL_law_589 ?_
  refine lv_aload_n hx hb dL_law_590 rfl (lv_at hl 0 rfl) ?_
  refine lv_iload_n hx hb dL_law_591 rfl (lv_at hl 3 rfl) ?_
  refine lv_iconst (v := (3 : Int32)) hx hb dL_law_592 (by decide) ?_
  refine lv_iadd hx hb dL_law_593 ?_
  refine va_sld hx hb hX hbl hbA hS h3 dL_law_594 ?_
  have hPc := leftP hP
  have hDc := leftD hD
  have hFc := freeS hDc hS hA
  refine va_calli (va_runV (As := [.int (xs (Int32.toNatClampNeg (i + (1 : Int32)))), .int (xs (Int32.toNatClampNeg (i + (2 : Int32)))), .int (xs (Int32.toNatClampNeg (i + (3 : Int32))))]) (rest := []) ⟨hx, hb, hml, hown, hG⟩ (c_X6_plan l D cI cZ a C (xs (Int32.toNatClampNeg (i + (1 : Int32)))) (xs (Int32.toNatClampNeg (i + (2 : Int32)))) (xs (Int32.toNatClampNeg (i + (3 : Int32)))) H.size f6) (cwV 3 hG (gV g_432 g_433 g_434 g_70 g_435) rfl rfl rfl (by decide +kernel) ⟨Nat.le_of_ble_eq_true rfl, Nat.le_of_ble_eq_true rfl⟩) ⟨pre_blind, va_recv hK hPc (ci := 6) (q0 := 0) rfl rfl, fun U hU hW => ⟨rfl, pre_of hPc hK hDc hnw hU hW⟩⟩ rfl rfl hl.1 rfl (lv_room (Nat.le_of_ble_eq_true rfl)) dL_law_595 ⟨Nat.le_of_ble_eq_true rfl, Nat.le_of_ble_eq_true rfl⟩) hS (fun q _ h => hFc q h) hFc (fun v5 u t H locs ht hvm hw hB hz1 hk1 hS => ?_)
  obtain ⟨hw1, hw2⟩ := hw
  have hw1 := hw1.symm
  have hw2 := hw2.symm
  subst hw1
  subst hw2
  obtain ⟨hP1, hD1⟩ := hB
  rw [ht] at hP1
  obtain ⟨hP, hD⟩ := joinL hP hD hk1 hFc hP1 hD1
  refine lv_aload_n hx hb dL_law_598 rfl (lv_at hl 2 rfl) ?_
  refine lv_aload_n hx hb dL_law_599 rfl (lv_at hl 0 rfl) ?_
  refine lv_iload_n hx hb dL_law_600 rfl (lv_at hl 3 rfl) ?_
  refine lv_iconst (v := (1 : Int32)) hx hb dL_law_601 (by decide) ?_
  refine lv_iadd hx hb dL_law_602 ?_
  refine va_sld hx hb hX hbl hbA hS h1 dL_law_603 ?_
  refine lv_aload_n hx hb dL_law_604 rfl (lv_at hl 0 rfl) ?_
  refine lv_iload_n hx hb dL_law_605 rfl (lv_at hl 3 rfl) ?_
  refine lv_iconst (v := (2 : Int32)) hx hb dL_law_606 (by decide) ?_
  refine lv_iadd hx hb dL_law_607 ?_
  refine va_sld hx hb hX hbl hbA hS h2 dL_law_608 ?_
  refine lv_aload_n hx hb dL_law_609 rfl (lv_at hl 0 rfl) ?_
  refine lv_iload_n hx hb dL_law_610 rfl (lv_at hl 3 rfl) ?_
  refine lv_iconst (v := (3 : Int32)) hx hb dL_law_611 (by decide) ?_
  refine lv_iadd hx hb dL_law_612 ?_
  refine va_sld hx hb hX hbl hbA hS h3 dL_law_613 ?_
  have hPc := rightP hP
  have hDc := rightD hD
  have hFc := freeS hDc hS hA
  refine va_calli (va_runV (As := [.int (xs (Int32.toNatClampNeg (i + (1 : Int32)))), .int (xs (Int32.toNatClampNeg (i + (2 : Int32)))), .int (xs (Int32.toNatClampNeg (i + (3 : Int32))))]) (rest := [.int v]) ⟨hx, hb, hml, hown, hG⟩ (c_X7_plan l D cI cZ am M (xs (Int32.toNatClampNeg (i + (1 : Int32)))) (xs (Int32.toNatClampNeg (i + (2 : Int32)))) (xs (Int32.toNatClampNeg (i + (3 : Int32)))) H.size f7) (cwV 3 hG (gV g_762 g_763 g_764 g_77 g_765) rfl rfl rfl (by decide +kernel) ⟨Nat.le_of_ble_eq_true rfl, Nat.le_of_ble_eq_true rfl⟩) ⟨pre_blind, va_recv hK hPc (ci := 7) (q0 := 0) rfl rfl, fun U hU hW => ⟨rfl, pre_of hPc hK hDc hnw hU hW⟩⟩ rfl rfl hl.1 rfl (lv_room (Nat.le_of_ble_eq_true rfl)) dL_law_614 ⟨Nat.le_of_ble_eq_true rfl, Nat.le_of_ble_eq_true rfl⟩) hS (fun q _ h => hFc q h) hFc (fun v6 u t H locs ht hvm hw hB hz1 hk1 hS => ?_)
  have hw := hw.symm; subst hw
  obtain ⟨hP1, hD1⟩ := hB
  rw [ht] at hP1
  obtain ⟨hP, hD⟩ := joinR hP hD hk1 hFc hP1 hD1
  refine lv_icmp_eq (tgt := 991) hx hb dL_law_617 (by decide) (fun cc => ?_) (fun cc => ?_)
  · exact K a C2 M _ _ _ hR2 hP hD hS hl
  · exact absurd rfl cc
set_option maxHeartbeats 4000000 in
set_option maxRecDepth 100000 in
theorem law_case_16 {p : Program} {l : Launch} {e : Env} {s : State} {m : MethodId} {below : List Frame} {meth : Method} {c : Code} {D : va_G} {cI cZ : ClassId} {b L : Nat} {xs : Nat → Int32} (C0 : lw_At p s m meth c b L xs) (hK : va_K D vwCl (TY cI cZ) s) (hnw : nwA s) {am : Nat → Nat} {i : Int32} (h1 : vp_in (i + 1) L) (h2 : vp_in (i + 2) L) (h3 : vp_in (i + 3) L) (a : Nat → Nat → Nat) (C : CC) (M : HC) (hR : Rel C M) (K : ∀ (a : Nat → Nat → Nat) (C : CC) (M : HC) (H : Heap) (locs : List Loc) (ls : Array Slot), Rel C M → va_P D vwCl (cW cI a C ++ kM cI cZ am M) H → va_D (fun q : Nat => s.heap.size ≤ q) (cW cI a C ++ kM cI cZ am M) → va_S (fun q : Nat => s.heap.size ≤ q) s.heap H locs → lv_has ls 4 [(0, .ref b), (1, .ref (a 0 0)), (2, .ref (am 0)), (3, .int i)] → W p l e room_1 s m #[Value.ref b] below meth c H locs 72 1324 (lw_Z below #[Value.ref b] s) (F0 m 991 ls [])) (H : Heap) (locs : List Loc) (ls : Array Slot) (hP : va_P D vwCl (cW cI a C ++ kM cI cZ am M) H) (hD : va_D (fun q : Nat => s.heap.size ≤ q) (cW cI a C ++ kM cI cZ am M)) (hS : va_S (fun q : Nat => s.heap.size ≤ q) s.heap H locs) (hl : lv_has ls 4 [(0, .ref b), (1, .ref (a 0 0)), (2, .ref (am 0)), (3, .int i)]) : W p l e room_1 s m #[Value.ref b] below meth c H locs 72 1324 (lw_Z below #[Value.ref b] s) (F0 m 622 ls []) := by
  obtain ⟨hx, hb, hr, hml, hown, hts, hX, hbl, hlocks, hgv⟩ := C0
  have hA : ∀ q : Nat, s.heap.size ≤ q → (fun q : Nat => s.heap.size ≤ q) q := fun _ h => h
  have hbA : ¬ (fun q : Nat => s.heap.size ≤ q) b := Nat.not_le.mpr hbl
  have hG : ∀ w ∈ GW, w.before #[Value.ref b] s = true := fun w h => hts w (GW_sub w h)
  obtain ⟨v, C2, f6, f7, hR2⟩ := op_stops hR (xs (Int32.toNatClampNeg (i + (1 : Int32))))
  refine lv_aload_n hx hb dL_law_622 rfl (lv_at hl 1 rfl) ?_
  refine lv_aload_n hx hb dL_law_623 rfl (lv_at hl 0 rfl) ?_
  refine lv_iload_n hx hb dL_law_624 rfl (lv_at hl 3 rfl) ?_
  refine lv_iconst (v := (1 : Int32)) hx hb dL_law_625 (by decide) ?_
  refine lv_iadd hx hb dL_law_626 ?_
  refine va_sld hx hb hX hbl hbA hS h1 dL_law_627 ?_
  have hPc := leftP hP
  have hDc := leftD hD
  have hFc := freeS hDc hS hA
  refine va_calli (va_runV (As := [.int (xs (Int32.toNatClampNeg (i + (1 : Int32))))]) (rest := []) ⟨hx, hb, hml, hown, hG⟩ (c_X6_stops l D cI cZ a C (xs (Int32.toNatClampNeg (i + (1 : Int32)))) H.size f6) (cwV 1 hG (gV g_459 g_460 g_461 g_70 g_462) rfl rfl rfl (by decide +kernel) ⟨Nat.le_of_ble_eq_true rfl, Nat.le_of_ble_eq_true rfl⟩) ⟨pre_blind, va_recv hK hPc (ci := 6) (q0 := 0) rfl rfl, fun U hU hW => ⟨rfl, pre_of hPc hK hDc hnw hU hW⟩⟩ rfl rfl hl.1 rfl (lv_room (Nat.le_of_ble_eq_true rfl)) dL_law_628 ⟨Nat.le_of_ble_eq_true rfl, Nat.le_of_ble_eq_true rfl⟩) hS (fun q _ h => hFc q h) hFc (fun v5 u t H locs ht hvm hw hB hz1 hk1 hS => ?_)
  obtain ⟨hw1, hw2⟩ := hw
  have hw1 := hw1.symm
  have hw2 := hw2.symm
  subst hw1
  subst hw2
  obtain ⟨hP1, hD1⟩ := hB
  rw [ht] at hP1
  obtain ⟨hP, hD⟩ := joinL hP hD hk1 hFc hP1 hD1
  refine lv_aload_n hx hb dL_law_631 rfl (lv_at hl 2 rfl) ?_
  refine lv_aload_n hx hb dL_law_632 rfl (lv_at hl 0 rfl) ?_
  refine lv_iload_n hx hb dL_law_633 rfl (lv_at hl 3 rfl) ?_
  refine lv_iconst (v := (1 : Int32)) hx hb dL_law_634 (by decide) ?_
  refine lv_iadd hx hb dL_law_635 ?_
  refine va_sld hx hb hX hbl hbA hS h1 dL_law_636 ?_
  have hPc := rightP hP
  have hDc := rightD hD
  have hFc := freeS hDc hS hA
  refine va_calli (va_runV (As := [.int (xs (Int32.toNatClampNeg (i + (1 : Int32))))]) (rest := [.int v]) ⟨hx, hb, hml, hown, hG⟩ (c_X7_stops l D cI cZ am M (xs (Int32.toNatClampNeg (i + (1 : Int32)))) H.size f7) (cwV 1 hG (gV g_778 g_779 g_780 g_77 g_781) rfl rfl rfl (by decide +kernel) ⟨Nat.le_of_ble_eq_true rfl, Nat.le_of_ble_eq_true rfl⟩) ⟨pre_blind, va_recv hK hPc (ci := 7) (q0 := 0) rfl rfl, fun U hU hW => ⟨rfl, pre_of hPc hK hDc hnw hU hW⟩⟩ rfl rfl hl.1 rfl (lv_room (Nat.le_of_ble_eq_true rfl)) dL_law_637 ⟨Nat.le_of_ble_eq_true rfl, Nat.le_of_ble_eq_true rfl⟩) hS (fun q _ h => hFc q h) hFc (fun v6 u t H locs ht hvm hw hB hz1 hk1 hS => ?_)
  have hw := hw.symm; subst hw
  obtain ⟨hP1, hD1⟩ := hB
  rw [ht] at hP1
  obtain ⟨hP, hD⟩ := joinR hP hD hk1 hFc hP1 hD1
  refine lv_icmp_eq (tgt := 991) hx hb dL_law_640 (by decide) (fun cc => ?_) (fun cc => ?_)
  · exact K a C2 M _ _ _ hR2 hP hD hS hl
  · exact absurd rfl cc
set_option maxHeartbeats 4000000 in
set_option maxRecDepth 100000 in
theorem law_case_17 {p : Program} {l : Launch} {e : Env} {s : State} {m : MethodId} {below : List Frame} {meth : Method} {c : Code} {D : va_G} {cI cZ : ClassId} {b L : Nat} {xs : Nat → Int32} (C0 : lw_At p s m meth c b L xs) (hK : va_K D vwCl (TY cI cZ) s) (hnw : nwA s) {am : Nat → Nat} {i : Int32} (h1 : vp_in (i + 1) L) (h2 : vp_in (i + 2) L) (h3 : vp_in (i + 3) L) (a : Nat → Nat → Nat) (C : CC) (M : HC) (hR : Rel C M) (K : ∀ (a : Nat → Nat → Nat) (C : CC) (M : HC) (H : Heap) (locs : List Loc) (ls : Array Slot), Rel C M → va_P D vwCl (cW cI a C ++ kM cI cZ am M) H → va_D (fun q : Nat => s.heap.size ≤ q) (cW cI a C ++ kM cI cZ am M) → va_S (fun q : Nat => s.heap.size ≤ q) s.heap H locs → lv_has ls 4 [(0, .ref b), (1, .ref (a 0 0)), (2, .ref (am 0)), (3, .int i)] → W p l e room_1 s m #[Value.ref b] below meth c H locs 72 1324 (lw_Z below #[Value.ref b] s) (F0 m 991 ls [])) (H : Heap) (locs : List Loc) (ls : Array Slot) (hP : va_P D vwCl (cW cI a C ++ kM cI cZ am M) H) (hD : va_D (fun q : Nat => s.heap.size ≤ q) (cW cI a C ++ kM cI cZ am M)) (hS : va_S (fun q : Nat => s.heap.size ≤ q) s.heap H locs) (hl : lv_has ls 4 [(0, .ref b), (1, .ref (a 0 0)), (2, .ref (am 0)), (3, .int i)]) : W p l e room_1 s m #[Value.ref b] below meth c H locs 72 1324 (lw_Z below #[Value.ref b] s) (F0 m 645 ls []) := by
  obtain ⟨hx, hb, hr, hml, hown, hts, hX, hbl, hlocks, hgv⟩ := C0
  have hA : ∀ q : Nat, s.heap.size ≤ q → (fun q : Nat => s.heap.size ≤ q) q := fun _ h => h
  have hbA : ¬ (fun q : Nat => s.heap.size ≤ q) b := Nat.not_le.mpr hbl
  have hG : ∀ w ∈ GW, w.before #[Value.ref b] s = true := fun w h => hts w (GW_sub w h)
  obtain ⟨v, C2, M2, f6, f7, hR2⟩ := op_write hR (xs (Int32.toNatClampNeg (i + (1 : Int32))))
  refine lv_aload_n hx hb dL_law_645 rfl (lv_at hl 1 rfl) ?_
  refine lv_aload_n hx hb dL_law_646 rfl (lv_at hl 0 rfl) ?_
  refine lv_iload_n hx hb dL_law_647 rfl (lv_at hl 3 rfl) ?_
  refine lv_iconst (v := (1 : Int32)) hx hb dL_law_648 (by decide) ?_
  refine lv_iadd hx hb dL_law_649 ?_
  refine va_sld hx hb hX hbl hbA hS h1 dL_law_650 ?_
  have hPc := leftP hP
  have hDc := leftD hD
  have hFc := freeS hDc hS hA
  refine va_calli (va_runV (As := [.int (xs (Int32.toNatClampNeg (i + (1 : Int32))))]) (rest := []) ⟨hx, hb, hml, hown, hG⟩ (c_X6_write l D cI cZ a C (xs (Int32.toNatClampNeg (i + (1 : Int32)))) H.size f6) (cwV 1 hG (gV g_463 g_464 g_465 g_70 g_466) rfl rfl rfl (by decide +kernel) ⟨Nat.le_of_ble_eq_true rfl, Nat.le_of_ble_eq_true rfl⟩) ⟨pre_blind, va_recv hK hPc (ci := 6) (q0 := 0) rfl rfl, fun U hU hW => ⟨rfl, pre_of hPc hK hDc hnw hU hW⟩⟩ rfl rfl hl.1 rfl (lv_room (Nat.le_of_ble_eq_true rfl)) dL_law_651 ⟨Nat.le_of_ble_eq_true rfl, Nat.le_of_ble_eq_true rfl⟩) hS (fun q _ h => hFc q h) hFc (fun v5 u t H locs ht hvm hw hB hz1 hk1 hS => ?_)
  obtain ⟨hw1, hw2⟩ := hw
  have hw1 := hw1.symm
  have hw2 := hw2.symm
  subst hw1
  subst hw2
  obtain ⟨hP1, hD1⟩ := hB
  rw [ht] at hP1
  obtain ⟨hP, hD⟩ := joinL hP hD hk1 hFc hP1 hD1
  refine lv_aload_n hx hb dL_law_654 rfl (lv_at hl 2 rfl) ?_
  refine lv_aload_n hx hb dL_law_655 rfl (lv_at hl 0 rfl) ?_
  refine lv_iload_n hx hb dL_law_656 rfl (lv_at hl 3 rfl) ?_
  refine lv_iconst (v := (1 : Int32)) hx hb dL_law_657 (by decide) ?_
  refine lv_iadd hx hb dL_law_658 ?_
  refine va_sld hx hb hX hbl hbA hS h1 dL_law_659 ?_
  have hPc := rightP hP
  have hDc := rightD hD
  have hFc := freeS hDc hS hA
  refine va_calli (va_runV (As := [.int (xs (Int32.toNatClampNeg (i + (1 : Int32))))]) (rest := [.int v]) ⟨hx, hb, hml, hown, hG⟩ (c_X7_write l D cI cZ am M (xs (Int32.toNatClampNeg (i + (1 : Int32)))) H.size f7) (cwV 1 hG (gV g_782 g_783 g_784 g_77 g_785) rfl rfl rfl (by decide +kernel) ⟨Nat.le_of_ble_eq_true rfl, Nat.le_of_ble_eq_true rfl⟩) ⟨pre_blind, va_recv hK hPc (ci := 7) (q0 := 0) rfl rfl, fun U hU hW => ⟨rfl, pre_of hPc hK hDc hnw hU hW⟩⟩ rfl rfl hl.1 rfl (lv_room (Nat.le_of_ble_eq_true rfl)) dL_law_660 ⟨Nat.le_of_ble_eq_true rfl, Nat.le_of_ble_eq_true rfl⟩) hS (fun q _ h => hFc q h) hFc (fun v6 u t H locs ht hvm hw hB hz1 hk1 hS => ?_)
  obtain ⟨hw1, hw2⟩ := hw
  have hw1 := hw1.symm
  have hw2 := hw2.symm
  subst hw1
  subst hw2
  obtain ⟨hP1, hD1⟩ := hB
  rw [ht] at hP1
  obtain ⟨hP, hD⟩ := joinR hP hD hk1 hFc hP1 hD1
  refine lv_icmp_eq (tgt := 991) hx hb dL_law_663 (by decide) (fun cc => ?_) (fun cc => ?_)
  · exact K a C2 M2 _ _ _ hR2 hP hD hS hl
  · exact absurd rfl cc
set_option maxHeartbeats 4000000 in
set_option maxRecDepth 100000 in
theorem law_case_18 {p : Program} {l : Launch} {e : Env} {s : State} {m : MethodId} {below : List Frame} {meth : Method} {c : Code} {D : va_G} {cI cZ : ClassId} {b L : Nat} {xs : Nat → Int32} (C0 : lw_At p s m meth c b L xs) (hK : va_K D vwCl (TY cI cZ) s) (hnw : nwA s) {am : Nat → Nat} {i : Int32} (h1 : vp_in (i + 1) L) (h2 : vp_in (i + 2) L) (h3 : vp_in (i + 3) L) (a : Nat → Nat → Nat) (C : CC) (M : HC) (hR : Rel C M) (K : ∀ (a : Nat → Nat → Nat) (C : CC) (M : HC) (H : Heap) (locs : List Loc) (ls : Array Slot), Rel C M → va_P D vwCl (cW cI a C ++ kM cI cZ am M) H → va_D (fun q : Nat => s.heap.size ≤ q) (cW cI a C ++ kM cI cZ am M) → va_S (fun q : Nat => s.heap.size ≤ q) s.heap H locs → lv_has ls 4 [(0, .ref b), (1, .ref (a 0 0)), (2, .ref (am 0)), (3, .int i)] → W p l e room_1 s m #[Value.ref b] below meth c H locs 72 1324 (lw_Z below #[Value.ref b] s) (F0 m 991 ls [])) (H : Heap) (locs : List Loc) (ls : Array Slot) (hP : va_P D vwCl (cW cI a C ++ kM cI cZ am M) H) (hD : va_D (fun q : Nat => s.heap.size ≤ q) (cW cI a C ++ kM cI cZ am M)) (hS : va_S (fun q : Nat => s.heap.size ≤ q) s.heap H locs) (hl : lv_has ls 4 [(0, .ref b), (1, .ref (a 0 0)), (2, .ref (am 0)), (3, .int i)]) : W p l e room_1 s m #[Value.ref b] below meth c H locs 72 1324 (lw_Z below #[Value.ref b] s) (F0 m 668 ls []) := by
  obtain ⟨hx, hb, hr, hml, hown, hts, hX, hbl, hlocks, hgv⟩ := C0
  have hA : ∀ q : Nat, s.heap.size ≤ q → (fun q : Nat => s.heap.size ≤ q) q := fun _ h => h
  have hbA : ¬ (fun q : Nat => s.heap.size ≤ q) b := Nat.not_le.mpr hbl
  have hG : ∀ w ∈ GW, w.before #[Value.ref b] s = true := fun w h => hts w (GW_sub w h)
  obtain ⟨v, f6, f7, hR2⟩ := op_tells hR (xs (Int32.toNatClampNeg (i + (1 : Int32)))) (xs (Int32.toNatClampNeg (i + (2 : Int32)))) (xs (Int32.toNatClampNeg (i + (3 : Int32))))
  refine lv_aload_n hx hb dL_law_668 rfl (lv_at hl 1 rfl) ?_
  refine lv_aload_n hx hb dL_law_669 rfl (lv_at hl 0 rfl) ?_
  refine lv_iload_n hx hb dL_law_670 rfl (lv_at hl 3 rfl) ?_
  refine lv_iconst (v := (1 : Int32)) hx hb dL_law_671 (by decide) ?_
  refine lv_iadd hx hb dL_law_672 ?_
  refine va_sld hx hb hX hbl hbA hS h1 dL_law_673 ?_
  refine lv_aload_n hx hb dL_law_674 rfl (lv_at hl 0 rfl) ?_
  refine lv_iload_n hx hb dL_law_675 rfl (lv_at hl 3 rfl) ?_
  refine lv_iconst (v := (2 : Int32)) hx hb dL_law_676 (by decide) ?_
  refine lv_iadd hx hb dL_law_677 ?_
  refine va_sld hx hb hX hbl hbA hS h2 dL_law_678 ?_
  refine lv_aload_n hx hb dL_law_679 rfl (lv_at hl 0 rfl) ?_
  refine lv_iload_n hx hb dL_law_680 rfl (lv_at hl 3 rfl) ?_
  refine lv_iconst (v := (3 : Int32)) hx hb dL_law_681 (by decide) ?_
  refine lv_iadd hx hb dL_law_682 ?_
  refine va_sld hx hb hX hbl hbA hS h3 dL_law_683 ?_
  have hPc := leftP hP
  have hDc := leftD hD
  have hFc := freeS hDc hS hA
  refine va_calli (va_runV (As := [.int (xs (Int32.toNatClampNeg (i + (1 : Int32)))), .int (xs (Int32.toNatClampNeg (i + (2 : Int32)))), .int (xs (Int32.toNatClampNeg (i + (3 : Int32))))]) (rest := []) ⟨hx, hb, hml, hown, hG⟩ (c_X6_tells l D cI cZ a C (xs (Int32.toNatClampNeg (i + (1 : Int32)))) (xs (Int32.toNatClampNeg (i + (2 : Int32)))) (xs (Int32.toNatClampNeg (i + (3 : Int32)))) H.size f6) (cwV 3 hG (gV g_486 g_487 g_488 g_70 g_489) rfl rfl rfl (by decide +kernel) ⟨Nat.le_of_ble_eq_true rfl, Nat.le_of_ble_eq_true rfl⟩) ⟨pre_blind, va_recv hK hPc (ci := 6) (q0 := 0) rfl rfl, fun U hU hW => ⟨rfl, pre_of hPc hK hDc hnw hU hW⟩⟩ rfl rfl hl.1 rfl (lv_room (Nat.le_of_ble_eq_true rfl)) dL_law_684 ⟨Nat.le_of_ble_eq_true rfl, Nat.le_of_ble_eq_true rfl⟩) hS (fun q _ h => hFc q h) hFc (fun v5 u t H locs ht hvm hw hB hz1 hk1 hS => ?_)
  have hw := hw.symm; subst hw
  obtain ⟨hP1, hD1⟩ := hB
  rw [ht] at hP1
  obtain ⟨hP, hD⟩ := joinL hP hD hk1 hFc hP1 hD1
  refine lv_aload_n hx hb dL_law_687 rfl (lv_at hl 2 rfl) ?_
  refine lv_aload_n hx hb dL_law_688 rfl (lv_at hl 0 rfl) ?_
  refine lv_iload_n hx hb dL_law_689 rfl (lv_at hl 3 rfl) ?_
  refine lv_iconst (v := (1 : Int32)) hx hb dL_law_690 (by decide) ?_
  refine lv_iadd hx hb dL_law_691 ?_
  refine va_sld hx hb hX hbl hbA hS h1 dL_law_692 ?_
  refine lv_aload_n hx hb dL_law_693 rfl (lv_at hl 0 rfl) ?_
  refine lv_iload_n hx hb dL_law_694 rfl (lv_at hl 3 rfl) ?_
  refine lv_iconst (v := (2 : Int32)) hx hb dL_law_695 (by decide) ?_
  refine lv_iadd hx hb dL_law_696 ?_
  refine va_sld hx hb hX hbl hbA hS h2 dL_law_697 ?_
  refine lv_aload_n hx hb dL_law_698 rfl (lv_at hl 0 rfl) ?_
  refine lv_iload_n hx hb dL_law_699 rfl (lv_at hl 3 rfl) ?_
  refine lv_iconst (v := (3 : Int32)) hx hb dL_law_700 (by decide) ?_
  refine lv_iadd hx hb dL_law_701 ?_
  refine va_sld hx hb hX hbl hbA hS h3 dL_law_702 ?_
  have hPc := rightP hP
  have hDc := rightD hD
  have hFc := freeS hDc hS hA
  refine va_calli (va_runV (As := [.int (xs (Int32.toNatClampNeg (i + (1 : Int32)))), .int (xs (Int32.toNatClampNeg (i + (2 : Int32)))), .int (xs (Int32.toNatClampNeg (i + (3 : Int32))))]) (rest := [.int v]) ⟨hx, hb, hml, hown, hG⟩ (c_X7_tells l D cI cZ am M (xs (Int32.toNatClampNeg (i + (1 : Int32)))) (xs (Int32.toNatClampNeg (i + (2 : Int32)))) (xs (Int32.toNatClampNeg (i + (3 : Int32)))) H.size f7) (cwV 3 hG (gV g_795 g_796 g_797 g_77 g_798) rfl rfl rfl (by decide +kernel) ⟨Nat.le_of_ble_eq_true rfl, Nat.le_of_ble_eq_true rfl⟩) ⟨pre_blind, va_recv hK hPc (ci := 7) (q0 := 0) rfl rfl, fun U hU hW => ⟨rfl, pre_of hPc hK hDc hnw hU hW⟩⟩ rfl rfl hl.1 rfl (lv_room (Nat.le_of_ble_eq_true rfl)) dL_law_703 ⟨Nat.le_of_ble_eq_true rfl, Nat.le_of_ble_eq_true rfl⟩) hS (fun q _ h => hFc q h) hFc (fun v6 u t H locs ht hvm hw hB hz1 hk1 hS => ?_)
  have hw := hw.symm; subst hw
  obtain ⟨hP1, hD1⟩ := hB
  rw [ht] at hP1
  obtain ⟨hP, hD⟩ := joinR hP hD hk1 hFc hP1 hD1
  refine lv_icmp_eq (tgt := 991) hx hb dL_law_706 (by decide) (fun cc => ?_) (fun cc => ?_)
  · exact K a C M _ _ _ hR2 hP hD hS hl
  · exact absurd rfl cc
set_option maxHeartbeats 4000000 in
set_option maxRecDepth 100000 in
theorem law_case_19 {p : Program} {l : Launch} {e : Env} {s : State} {m : MethodId} {below : List Frame} {meth : Method} {c : Code} {D : va_G} {cI cZ : ClassId} {b L : Nat} {xs : Nat → Int32} (C0 : lw_At p s m meth c b L xs) (hK : va_K D vwCl (TY cI cZ) s) (hnw : nwA s) {am : Nat → Nat} {i : Int32} (h1 : vp_in (i + 1) L) (h2 : vp_in (i + 2) L) (h3 : vp_in (i + 3) L) (a : Nat → Nat → Nat) (C : CC) (M : HC) (hR : Rel C M) (K : ∀ (a : Nat → Nat → Nat) (C : CC) (M : HC) (H : Heap) (locs : List Loc) (ls : Array Slot), Rel C M → va_P D vwCl (cW cI a C ++ kM cI cZ am M) H → va_D (fun q : Nat => s.heap.size ≤ q) (cW cI a C ++ kM cI cZ am M) → va_S (fun q : Nat => s.heap.size ≤ q) s.heap H locs → lv_has ls 4 [(0, .ref b), (1, .ref (a 0 0)), (2, .ref (am 0)), (3, .int i)] → W p l e room_1 s m #[Value.ref b] below meth c H locs 72 1324 (lw_Z below #[Value.ref b] s) (F0 m 991 ls [])) (H : Heap) (locs : List Loc) (ls : Array Slot) (hP : va_P D vwCl (cW cI a C ++ kM cI cZ am M) H) (hD : va_D (fun q : Nat => s.heap.size ≤ q) (cW cI a C ++ kM cI cZ am M)) (hS : va_S (fun q : Nat => s.heap.size ≤ q) s.heap H locs) (hl : lv_has ls 4 [(0, .ref b), (1, .ref (a 0 0)), (2, .ref (am 0)), (3, .int i)]) : W p l e room_1 s m #[Value.ref b] below meth c H locs 72 1324 (lw_Z below #[Value.ref b] s) (F0 m 711 ls []) := by
  obtain ⟨hx, hb, hr, hml, hown, hts, hX, hbl, hlocks, hgv⟩ := C0
  have hA : ∀ q : Nat, s.heap.size ≤ q → (fun q : Nat => s.heap.size ≤ q) q := fun _ h => h
  have hbA : ¬ (fun q : Nat => s.heap.size ≤ q) b := Nat.not_le.mpr hbl
  have hG : ∀ w ∈ GW, w.before #[Value.ref b] s = true := fun w h => hts w (GW_sub w h)
  obtain ⟨v, f6, f7, hR2⟩ := op_words hR (xs (Int32.toNatClampNeg (i + (1 : Int32)))) (xs (Int32.toNatClampNeg (i + (2 : Int32))))
  refine lv_aload_n hx hb dL_law_711 rfl (lv_at hl 1 rfl) ?_
  refine lv_aload_n hx hb dL_law_712 rfl (lv_at hl 0 rfl) ?_
  refine lv_iload_n hx hb dL_law_713 rfl (lv_at hl 3 rfl) ?_
  refine lv_iconst (v := (1 : Int32)) hx hb dL_law_714 (by decide) ?_
  refine lv_iadd hx hb dL_law_715 ?_
  refine va_sld hx hb hX hbl hbA hS h1 dL_law_716 ?_
  refine lv_aload_n hx hb dL_law_717 rfl (lv_at hl 0 rfl) ?_
  refine lv_iload_n hx hb dL_law_718 rfl (lv_at hl 3 rfl) ?_
  refine lv_iconst (v := (2 : Int32)) hx hb dL_law_719 (by decide) ?_
  refine lv_iadd hx hb dL_law_720 ?_
  refine va_sld hx hb hX hbl hbA hS h2 dL_law_721 ?_
  have hPc := leftP hP
  have hDc := leftD hD
  have hFc := freeS hDc hS hA
  refine va_calli (va_runV (As := [.int (xs (Int32.toNatClampNeg (i + (1 : Int32)))), .int (xs (Int32.toNatClampNeg (i + (2 : Int32))))]) (rest := []) ⟨hx, hb, hml, hown, hG⟩ (c_X6_words l D cI cZ a C (xs (Int32.toNatClampNeg (i + (1 : Int32)))) (xs (Int32.toNatClampNeg (i + (2 : Int32)))) H.size f6) (cwV 2 hG (gV g_493 g_494 g_495 g_70 g_496) rfl rfl rfl (by decide +kernel) ⟨Nat.le_of_ble_eq_true rfl, Nat.le_of_ble_eq_true rfl⟩) ⟨pre_blind, va_recv hK hPc (ci := 6) (q0 := 0) rfl rfl, fun U hU hW => ⟨rfl, pre_of hPc hK hDc hnw hU hW⟩⟩ rfl rfl hl.1 rfl (lv_room (Nat.le_of_ble_eq_true rfl)) dL_law_722 ⟨Nat.le_of_ble_eq_true rfl, Nat.le_of_ble_eq_true rfl⟩) hS (fun q _ h => hFc q h) hFc (fun v5 u t H locs ht hvm hw hB hz1 hk1 hS => ?_)
  have hw := hw.symm; subst hw
  obtain ⟨hP1, hD1⟩ := hB
  rw [ht] at hP1
  obtain ⟨hP, hD⟩ := joinL hP hD hk1 hFc hP1 hD1
  refine lv_aload_n hx hb dL_law_725 rfl (lv_at hl 2 rfl) ?_
  refine lv_aload_n hx hb dL_law_726 rfl (lv_at hl 0 rfl) ?_
  refine lv_iload_n hx hb dL_law_727 rfl (lv_at hl 3 rfl) ?_
  refine lv_iconst (v := (1 : Int32)) hx hb dL_law_728 (by decide) ?_
  refine lv_iadd hx hb dL_law_729 ?_
  refine va_sld hx hb hX hbl hbA hS h1 dL_law_730 ?_
  refine lv_aload_n hx hb dL_law_731 rfl (lv_at hl 0 rfl) ?_
  refine lv_iload_n hx hb dL_law_732 rfl (lv_at hl 3 rfl) ?_
  refine lv_iconst (v := (2 : Int32)) hx hb dL_law_733 (by decide) ?_
  refine lv_iadd hx hb dL_law_734 ?_
  refine va_sld hx hb hX hbl hbA hS h2 dL_law_735 ?_
  have hPc := rightP hP
  have hDc := rightD hD
  have hFc := freeS hDc hS hA
  refine va_calli (va_runV (As := [.int (xs (Int32.toNatClampNeg (i + (1 : Int32)))), .int (xs (Int32.toNatClampNeg (i + (2 : Int32))))]) (rest := [.int v]) ⟨hx, hb, hml, hown, hG⟩ (c_X7_words l D cI cZ am M (xs (Int32.toNatClampNeg (i + (1 : Int32)))) (xs (Int32.toNatClampNeg (i + (2 : Int32)))) H.size f7) (cwV 2 hG (gV g_802 g_803 g_804 g_77 g_805) rfl rfl rfl (by decide +kernel) ⟨Nat.le_of_ble_eq_true rfl, Nat.le_of_ble_eq_true rfl⟩) ⟨pre_blind, va_recv hK hPc (ci := 7) (q0 := 0) rfl rfl, fun U hU hW => ⟨rfl, pre_of hPc hK hDc hnw hU hW⟩⟩ rfl rfl hl.1 rfl (lv_room (Nat.le_of_ble_eq_true rfl)) dL_law_736 ⟨Nat.le_of_ble_eq_true rfl, Nat.le_of_ble_eq_true rfl⟩) hS (fun q _ h => hFc q h) hFc (fun v6 u t H locs ht hvm hw hB hz1 hk1 hS => ?_)
  have hw := hw.symm; subst hw
  obtain ⟨hP1, hD1⟩ := hB
  rw [ht] at hP1
  obtain ⟨hP, hD⟩ := joinR hP hD hk1 hFc hP1 hD1
  refine lv_icmp_eq (tgt := 991) hx hb dL_law_739 (by decide) (fun cc => ?_) (fun cc => ?_)
  · exact K a C M _ _ _ hR2 hP hD hS hl
  · exact absurd rfl cc
set_option maxHeartbeats 4000000 in
set_option maxRecDepth 100000 in
theorem law_case_20 {p : Program} {l : Launch} {e : Env} {s : State} {m : MethodId} {below : List Frame} {meth : Method} {c : Code} {D : va_G} {cI cZ : ClassId} {b L : Nat} {xs : Nat → Int32} (C0 : lw_At p s m meth c b L xs) (hK : va_K D vwCl (TY cI cZ) s) (hnw : nwA s) {am : Nat → Nat} {i : Int32} (h1 : vp_in (i + 1) L) (h2 : vp_in (i + 2) L) (h3 : vp_in (i + 3) L) (a : Nat → Nat → Nat) (C : CC) (M : HC) (hR : Rel C M) (K : ∀ (a : Nat → Nat → Nat) (C : CC) (M : HC) (H : Heap) (locs : List Loc) (ls : Array Slot), Rel C M → va_P D vwCl (cW cI a C ++ kM cI cZ am M) H → va_D (fun q : Nat => s.heap.size ≤ q) (cW cI a C ++ kM cI cZ am M) → va_S (fun q : Nat => s.heap.size ≤ q) s.heap H locs → lv_has ls 4 [(0, .ref b), (1, .ref (a 0 0)), (2, .ref (am 0)), (3, .int i)] → W p l e room_1 s m #[Value.ref b] below meth c H locs 72 1324 (lw_Z below #[Value.ref b] s) (F0 m 991 ls [])) (H : Heap) (locs : List Loc) (ls : Array Slot) (hP : va_P D vwCl (cW cI a C ++ kM cI cZ am M) H) (hD : va_D (fun q : Nat => s.heap.size ≤ q) (cW cI a C ++ kM cI cZ am M)) (hS : va_S (fun q : Nat => s.heap.size ≤ q) s.heap H locs) (hl : lv_has ls 4 [(0, .ref b), (1, .ref (a 0 0)), (2, .ref (am 0)), (3, .int i)]) : W p l e room_1 s m #[Value.ref b] below meth c H locs 72 1324 (lw_Z below #[Value.ref b] s) (F0 m 744 ls []) := by
  obtain ⟨hx, hb, hr, hml, hown, hts, hX, hbl, hlocks, hgv⟩ := C0
  have hA : ∀ q : Nat, s.heap.size ≤ q → (fun q : Nat => s.heap.size ≤ q) q := fun _ h => h
  have hbA : ¬ (fun q : Nat => s.heap.size ≤ q) b := Nat.not_le.mpr hbl
  have hG : ∀ w ∈ GW, w.before #[Value.ref b] s = true := fun w h => hts w (GW_sub w h)
  obtain ⟨v, f6, f7, hR2⟩ := op_hire hR (xs (Int32.toNatClampNeg (i + (1 : Int32)))) (xs (Int32.toNatClampNeg (i + (2 : Int32))))
  refine lv_aload_n hx hb dL_law_744 rfl (lv_at hl 1 rfl) ?_
  refine lv_aload_n hx hb dL_law_745 rfl (lv_at hl 0 rfl) ?_
  refine lv_iload_n hx hb dL_law_746 rfl (lv_at hl 3 rfl) ?_
  refine lv_iconst (v := (1 : Int32)) hx hb dL_law_747 (by decide) ?_
  refine lv_iadd hx hb dL_law_748 ?_
  refine va_sld hx hb hX hbl hbA hS h1 dL_law_749 ?_
  refine lv_aload_n hx hb dL_law_750 rfl (lv_at hl 0 rfl) ?_
  refine lv_iload_n hx hb dL_law_751 rfl (lv_at hl 3 rfl) ?_
  refine lv_iconst (v := (2 : Int32)) hx hb dL_law_752 (by decide) ?_
  refine lv_iadd hx hb dL_law_753 ?_
  refine va_sld hx hb hX hbl hbA hS h2 dL_law_754 ?_
  have hPc := leftP hP
  have hDc := leftD hD
  have hFc := freeS hDc hS hA
  refine va_calli (va_runV (As := [.int (xs (Int32.toNatClampNeg (i + (1 : Int32)))), .int (xs (Int32.toNatClampNeg (i + (2 : Int32))))]) (rest := []) ⟨hx, hb, hml, hown, hG⟩ (c_X6_hire l D cI cZ a C (xs (Int32.toNatClampNeg (i + (1 : Int32)))) (xs (Int32.toNatClampNeg (i + (2 : Int32)))) H.size f6) (cwV 2 hG (gV g_500 g_501 g_502 g_70 g_503) rfl rfl rfl (by decide +kernel) ⟨Nat.le_of_ble_eq_true rfl, Nat.le_of_ble_eq_true rfl⟩) ⟨pre_blind, va_recv hK hPc (ci := 6) (q0 := 0) rfl rfl, fun U hU hW => ⟨rfl, pre_of hPc hK hDc hnw hU hW⟩⟩ rfl rfl hl.1 rfl (lv_room (Nat.le_of_ble_eq_true rfl)) dL_law_755 ⟨Nat.le_of_ble_eq_true rfl, Nat.le_of_ble_eq_true rfl⟩) hS (fun q _ h => hFc q h) hFc (fun v5 u t H locs ht hvm hw hB hz1 hk1 hS => ?_)
  have hw := hw.symm; subst hw
  obtain ⟨hP1, hD1⟩ := hB
  rw [ht] at hP1
  obtain ⟨hP, hD⟩ := joinL hP hD hk1 hFc hP1 hD1
  refine lv_aload_n hx hb dL_law_758 rfl (lv_at hl 2 rfl) ?_
  refine lv_aload_n hx hb dL_law_759 rfl (lv_at hl 0 rfl) ?_
  refine lv_iload_n hx hb dL_law_760 rfl (lv_at hl 3 rfl) ?_
  refine lv_iconst (v := (1 : Int32)) hx hb dL_law_761 (by decide) ?_
  refine lv_iadd hx hb dL_law_762 ?_
  refine va_sld hx hb hX hbl hbA hS h1 dL_law_763 ?_
  refine lv_aload_n hx hb dL_law_764 rfl (lv_at hl 0 rfl) ?_
  refine lv_iload_n hx hb dL_law_765 rfl (lv_at hl 3 rfl) ?_
  refine lv_iconst (v := (2 : Int32)) hx hb dL_law_766 (by decide) ?_
  refine lv_iadd hx hb dL_law_767 ?_
  refine va_sld hx hb hX hbl hbA hS h2 dL_law_768 ?_
  have hPc := rightP hP
  have hDc := rightD hD
  have hFc := freeS hDc hS hA
  refine va_calli (va_runV (As := [.int (xs (Int32.toNatClampNeg (i + (1 : Int32)))), .int (xs (Int32.toNatClampNeg (i + (2 : Int32))))]) (rest := [.int v]) ⟨hx, hb, hml, hown, hG⟩ (c_X7_hire l D cI cZ am M (xs (Int32.toNatClampNeg (i + (1 : Int32)))) (xs (Int32.toNatClampNeg (i + (2 : Int32)))) H.size f7) (cwV 2 hG (gV g_809 g_810 g_811 g_77 g_812) rfl rfl rfl (by decide +kernel) ⟨Nat.le_of_ble_eq_true rfl, Nat.le_of_ble_eq_true rfl⟩) ⟨pre_blind, va_recv hK hPc (ci := 7) (q0 := 0) rfl rfl, fun U hU hW => ⟨rfl, pre_of hPc hK hDc hnw hU hW⟩⟩ rfl rfl hl.1 rfl (lv_room (Nat.le_of_ble_eq_true rfl)) dL_law_769 ⟨Nat.le_of_ble_eq_true rfl, Nat.le_of_ble_eq_true rfl⟩) hS (fun q _ h => hFc q h) hFc (fun v6 u t H locs ht hvm hw hB hz1 hk1 hS => ?_)
  have hw := hw.symm; subst hw
  obtain ⟨hP1, hD1⟩ := hB
  rw [ht] at hP1
  obtain ⟨hP, hD⟩ := joinR hP hD hk1 hFc hP1 hD1
  refine lv_icmp_eq (tgt := 991) hx hb dL_law_772 (by decide) (fun cc => ?_) (fun cc => ?_)
  · exact K a C M _ _ _ hR2 hP hD hS hl
  · exact absurd rfl cc
set_option maxHeartbeats 4000000 in
set_option maxRecDepth 100000 in
theorem law_case_21 {p : Program} {l : Launch} {e : Env} {s : State} {m : MethodId} {below : List Frame} {meth : Method} {c : Code} {D : va_G} {cI cZ : ClassId} {b L : Nat} {xs : Nat → Int32} (C0 : lw_At p s m meth c b L xs) (hK : va_K D vwCl (TY cI cZ) s) (hnw : nwA s) {am : Nat → Nat} {i : Int32} (h1 : vp_in (i + 1) L) (h2 : vp_in (i + 2) L) (h3 : vp_in (i + 3) L) (a : Nat → Nat → Nat) (C : CC) (M : HC) (hR : Rel C M) (K : ∀ (a : Nat → Nat → Nat) (C : CC) (M : HC) (H : Heap) (locs : List Loc) (ls : Array Slot), Rel C M → va_P D vwCl (cW cI a C ++ kM cI cZ am M) H → va_D (fun q : Nat => s.heap.size ≤ q) (cW cI a C ++ kM cI cZ am M) → va_S (fun q : Nat => s.heap.size ≤ q) s.heap H locs → lv_has ls 4 [(0, .ref b), (1, .ref (a 0 0)), (2, .ref (am 0)), (3, .int i)] → W p l e room_1 s m #[Value.ref b] below meth c H locs 72 1324 (lw_Z below #[Value.ref b] s) (F0 m 991 ls [])) (H : Heap) (locs : List Loc) (ls : Array Slot) (hP : va_P D vwCl (cW cI a C ++ kM cI cZ am M) H) (hD : va_D (fun q : Nat => s.heap.size ≤ q) (cW cI a C ++ kM cI cZ am M)) (hS : va_S (fun q : Nat => s.heap.size ≤ q) s.heap H locs) (hl : lv_has ls 4 [(0, .ref b), (1, .ref (a 0 0)), (2, .ref (am 0)), (3, .int i)]) : W p l e room_1 s m #[Value.ref b] below meth c H locs 72 1324 (lw_Z below #[Value.ref b] s) (F0 m 777 ls []) := by
  obtain ⟨hx, hb, hr, hml, hown, hts, hX, hbl, hlocks, hgv⟩ := C0
  have hA : ∀ q : Nat, s.heap.size ≤ q → (fun q : Nat => s.heap.size ≤ q) q := fun _ h => h
  have hbA : ¬ (fun q : Nat => s.heap.size ≤ q) b := Nat.not_le.mpr hbl
  have hG : ∀ w ∈ GW, w.before #[Value.ref b] s = true := fun w h => hts w (GW_sub w h)
  obtain ⟨v, f6, f7, hR2⟩ := op_saw hR (xs (Int32.toNatClampNeg (i + (1 : Int32)))) (xs (Int32.toNatClampNeg (i + (2 : Int32)))) (xs (Int32.toNatClampNeg (i + (3 : Int32))))
  refine lv_aload_n hx hb dL_law_777 rfl (lv_at hl 1 rfl) ?_
  refine lv_aload_n hx hb dL_law_778 rfl (lv_at hl 0 rfl) ?_
  refine lv_iload_n hx hb dL_law_779 rfl (lv_at hl 3 rfl) ?_
  refine lv_iconst (v := (1 : Int32)) hx hb dL_law_780 (by decide) ?_
  refine lv_iadd hx hb dL_law_781 ?_
  refine va_sld hx hb hX hbl hbA hS h1 dL_law_782 ?_
  refine lv_aload_n hx hb dL_law_783 rfl (lv_at hl 0 rfl) ?_
  refine lv_iload_n hx hb dL_law_784 rfl (lv_at hl 3 rfl) ?_
  refine lv_iconst (v := (2 : Int32)) hx hb dL_law_785 (by decide) ?_
  refine lv_iadd hx hb dL_law_786 ?_
  refine va_sld hx hb hX hbl hbA hS h2 dL_law_787 ?_
  refine lv_aload_n hx hb dL_law_788 rfl (lv_at hl 0 rfl) ?_
  refine lv_iload_n hx hb dL_law_789 rfl (lv_at hl 3 rfl) ?_
  refine lv_iconst (v := (3 : Int32)) hx hb dL_law_790 (by decide) ?_
  refine lv_iadd hx hb dL_law_791 ?_
  refine va_sld hx hb hX hbl hbA hS h3 dL_law_792 ?_
  have hPc := leftP hP
  have hDc := leftD hD
  have hFc := freeS hDc hS hA
  refine va_calli (va_runV (As := [.int (xs (Int32.toNatClampNeg (i + (1 : Int32)))), .int (xs (Int32.toNatClampNeg (i + (2 : Int32)))), .int (xs (Int32.toNatClampNeg (i + (3 : Int32))))]) (rest := []) ⟨hx, hb, hml, hown, hG⟩ (c_X6_saw l D cI cZ a C (xs (Int32.toNatClampNeg (i + (1 : Int32)))) (xs (Int32.toNatClampNeg (i + (2 : Int32)))) (xs (Int32.toNatClampNeg (i + (3 : Int32)))) H.size f6) (cwV 3 hG (gV g_507 g_508 g_509 g_70 g_510) rfl rfl rfl (by decide +kernel) ⟨Nat.le_of_ble_eq_true rfl, Nat.le_of_ble_eq_true rfl⟩) ⟨pre_blind, va_recv hK hPc (ci := 6) (q0 := 0) rfl rfl, fun U hU hW => ⟨rfl, pre_of hPc hK hDc hnw hU hW⟩⟩ rfl rfl hl.1 rfl (lv_room (Nat.le_of_ble_eq_true rfl)) dL_law_793 ⟨Nat.le_of_ble_eq_true rfl, Nat.le_of_ble_eq_true rfl⟩) hS (fun q _ h => hFc q h) hFc (fun v5 u t H locs ht hvm hw hB hz1 hk1 hS => ?_)
  have hw := hw.symm; subst hw
  obtain ⟨hP1, hD1⟩ := hB
  rw [ht] at hP1
  obtain ⟨hP, hD⟩ := joinL hP hD hk1 hFc hP1 hD1
  refine lv_aload_n hx hb dL_law_796 rfl (lv_at hl 2 rfl) ?_
  refine lv_aload_n hx hb dL_law_797 rfl (lv_at hl 0 rfl) ?_
  refine lv_iload_n hx hb dL_law_798 rfl (lv_at hl 3 rfl) ?_
  refine lv_iconst (v := (1 : Int32)) hx hb dL_law_799 (by decide) ?_
  refine lv_iadd hx hb dL_law_800 ?_
  refine va_sld hx hb hX hbl hbA hS h1 dL_law_801 ?_
  refine lv_aload_n hx hb dL_law_802 rfl (lv_at hl 0 rfl) ?_
  refine lv_iload_n hx hb dL_law_803 rfl (lv_at hl 3 rfl) ?_
  refine lv_iconst (v := (2 : Int32)) hx hb dL_law_804 (by decide) ?_
  refine lv_iadd hx hb dL_law_805 ?_
  refine va_sld hx hb hX hbl hbA hS h2 dL_law_806 ?_
  refine lv_aload_n hx hb dL_law_807 rfl (lv_at hl 0 rfl) ?_
  refine lv_iload_n hx hb dL_law_808 rfl (lv_at hl 3 rfl) ?_
  refine lv_iconst (v := (3 : Int32)) hx hb dL_law_809 (by decide) ?_
  refine lv_iadd hx hb dL_law_810 ?_
  refine va_sld hx hb hX hbl hbA hS h3 dL_law_811 ?_
  have hPc := rightP hP
  have hDc := rightD hD
  have hFc := freeS hDc hS hA
  refine va_calli (va_runV (As := [.int (xs (Int32.toNatClampNeg (i + (1 : Int32)))), .int (xs (Int32.toNatClampNeg (i + (2 : Int32)))), .int (xs (Int32.toNatClampNeg (i + (3 : Int32))))]) (rest := [.int v]) ⟨hx, hb, hml, hown, hG⟩ (c_X7_saw l D cI cZ am M (xs (Int32.toNatClampNeg (i + (1 : Int32)))) (xs (Int32.toNatClampNeg (i + (2 : Int32)))) (xs (Int32.toNatClampNeg (i + (3 : Int32)))) H.size f7) (cwV 3 hG (gV g_813 g_814 g_815 g_77 g_816) rfl rfl rfl (by decide +kernel) ⟨Nat.le_of_ble_eq_true rfl, Nat.le_of_ble_eq_true rfl⟩) ⟨pre_blind, va_recv hK hPc (ci := 7) (q0 := 0) rfl rfl, fun U hU hW => ⟨rfl, pre_of hPc hK hDc hnw hU hW⟩⟩ rfl rfl hl.1 rfl (lv_room (Nat.le_of_ble_eq_true rfl)) dL_law_812 ⟨Nat.le_of_ble_eq_true rfl, Nat.le_of_ble_eq_true rfl⟩) hS (fun q _ h => hFc q h) hFc (fun v6 u t H locs ht hvm hw hB hz1 hk1 hS => ?_)
  have hw := hw.symm; subst hw
  obtain ⟨hP1, hD1⟩ := hB
  rw [ht] at hP1
  obtain ⟨hP, hD⟩ := joinR hP hD hk1 hFc hP1 hD1
  refine lv_icmp_eq (tgt := 991) hx hb dL_law_815 (by decide) (fun cc => ?_) (fun cc => ?_)
  · exact K a C M _ _ _ hR2 hP hD hS hl
  · exact absurd rfl cc
set_option maxHeartbeats 4000000 in
set_option maxRecDepth 100000 in
theorem law_case_22 {p : Program} {l : Launch} {e : Env} {s : State} {m : MethodId} {below : List Frame} {meth : Method} {c : Code} {D : va_G} {cI cZ : ClassId} {b L : Nat} {xs : Nat → Int32} (C0 : lw_At p s m meth c b L xs) (hK : va_K D vwCl (TY cI cZ) s) (hnw : nwA s) {am : Nat → Nat} {i : Int32} (h1 : vp_in (i + 1) L) (h2 : vp_in (i + 2) L) (h3 : vp_in (i + 3) L) (a : Nat → Nat → Nat) (C : CC) (M : HC) (hR : Rel C M) (K : ∀ (a : Nat → Nat → Nat) (C : CC) (M : HC) (H : Heap) (locs : List Loc) (ls : Array Slot), Rel C M → va_P D vwCl (cW cI a C ++ kM cI cZ am M) H → va_D (fun q : Nat => s.heap.size ≤ q) (cW cI a C ++ kM cI cZ am M) → va_S (fun q : Nat => s.heap.size ≤ q) s.heap H locs → lv_has ls 4 [(0, .ref b), (1, .ref (a 0 0)), (2, .ref (am 0)), (3, .int i)] → W p l e room_1 s m #[Value.ref b] below meth c H locs 72 1324 (lw_Z below #[Value.ref b] s) (F0 m 991 ls [])) (H : Heap) (locs : List Loc) (ls : Array Slot) (hP : va_P D vwCl (cW cI a C ++ kM cI cZ am M) H) (hD : va_D (fun q : Nat => s.heap.size ≤ q) (cW cI a C ++ kM cI cZ am M)) (hS : va_S (fun q : Nat => s.heap.size ≤ q) s.heap H locs) (hl : lv_has ls 4 [(0, .ref b), (1, .ref (a 0 0)), (2, .ref (am 0)), (3, .int i)]) : W p l e room_1 s m #[Value.ref b] below meth c H locs 72 1324 (lw_Z below #[Value.ref b] s) (F0 m 820 ls []) := by
  obtain ⟨hx, hb, hr, hml, hown, hts, hX, hbl, hlocks, hgv⟩ := C0
  have hA : ∀ q : Nat, s.heap.size ≤ q → (fun q : Nat => s.heap.size ≤ q) q := fun _ h => h
  have hbA : ¬ (fun q : Nat => s.heap.size ≤ q) b := Nat.not_le.mpr hbl
  have hG : ∀ w ∈ GW, w.before #[Value.ref b] s = true := fun w h => hts w (GW_sub w h)
  obtain ⟨v, f6, f7, hR2⟩ := op_hides hR (xs (Int32.toNatClampNeg (i + (1 : Int32)))) (xs (Int32.toNatClampNeg (i + (2 : Int32))))
  refine lv_aload_n hx hb dL_law_820 rfl (lv_at hl 1 rfl) ?_
  refine lv_aload_n hx hb dL_law_821 rfl (lv_at hl 0 rfl) ?_
  refine lv_iload_n hx hb dL_law_822 rfl (lv_at hl 3 rfl) ?_
  refine lv_iconst (v := (1 : Int32)) hx hb dL_law_823 (by decide) ?_
  refine lv_iadd hx hb dL_law_824 ?_
  refine va_sld hx hb hX hbl hbA hS h1 dL_law_825 ?_
  refine lv_aload_n hx hb dL_law_826 rfl (lv_at hl 0 rfl) ?_
  refine lv_iload_n hx hb dL_law_827 rfl (lv_at hl 3 rfl) ?_
  refine lv_iconst (v := (2 : Int32)) hx hb dL_law_828 (by decide) ?_
  refine lv_iadd hx hb dL_law_829 ?_
  refine va_sld hx hb hX hbl hbA hS h2 dL_law_830 ?_
  have hPc := leftP hP
  have hDc := leftD hD
  have hFc := freeS hDc hS hA
  refine va_calli (va_runV (As := [.int (xs (Int32.toNatClampNeg (i + (1 : Int32)))), .int (xs (Int32.toNatClampNeg (i + (2 : Int32))))]) (rest := []) ⟨hx, hb, hml, hown, hG⟩ (c_X6_hides l D cI cZ a C (xs (Int32.toNatClampNeg (i + (1 : Int32)))) (xs (Int32.toNatClampNeg (i + (2 : Int32)))) H.size f6) (cwV 2 hG (gV g_515 g_516 g_517 g_70 g_518) rfl rfl rfl (by decide +kernel) ⟨Nat.le_of_ble_eq_true rfl, Nat.le_of_ble_eq_true rfl⟩) ⟨pre_blind, va_recv hK hPc (ci := 6) (q0 := 0) rfl rfl, fun U hU hW => ⟨rfl, pre_of hPc hK hDc hnw hU hW⟩⟩ rfl rfl hl.1 rfl (lv_room (Nat.le_of_ble_eq_true rfl)) dL_law_831 ⟨Nat.le_of_ble_eq_true rfl, Nat.le_of_ble_eq_true rfl⟩) hS (fun q _ h => hFc q h) hFc (fun v5 u t H locs ht hvm hw hB hz1 hk1 hS => ?_)
  have hw := hw.symm; subst hw
  obtain ⟨hP1, hD1⟩ := hB
  rw [ht] at hP1
  obtain ⟨hP, hD⟩ := joinL hP hD hk1 hFc hP1 hD1
  refine lv_aload_n hx hb dL_law_834 rfl (lv_at hl 2 rfl) ?_
  refine lv_aload_n hx hb dL_law_835 rfl (lv_at hl 0 rfl) ?_
  refine lv_iload_n hx hb dL_law_836 rfl (lv_at hl 3 rfl) ?_
  refine lv_iconst (v := (1 : Int32)) hx hb dL_law_837 (by decide) ?_
  refine lv_iadd hx hb dL_law_838 ?_
  refine va_sld hx hb hX hbl hbA hS h1 dL_law_839 ?_
  refine lv_aload_n hx hb dL_law_840 rfl (lv_at hl 0 rfl) ?_
  refine lv_iload_n hx hb dL_law_841 rfl (lv_at hl 3 rfl) ?_
  refine lv_iconst (v := (2 : Int32)) hx hb dL_law_842 (by decide) ?_
  refine lv_iadd hx hb dL_law_843 ?_
  refine va_sld hx hb hX hbl hbA hS h2 dL_law_844 ?_
  have hPc := rightP hP
  have hDc := rightD hD
  have hFc := freeS hDc hS hA
  refine va_calli (va_runV (As := [.int (xs (Int32.toNatClampNeg (i + (1 : Int32)))), .int (xs (Int32.toNatClampNeg (i + (2 : Int32))))]) (rest := [.int v]) ⟨hx, hb, hml, hown, hG⟩ (c_X7_hides l D cI cZ am M (xs (Int32.toNatClampNeg (i + (1 : Int32)))) (xs (Int32.toNatClampNeg (i + (2 : Int32)))) H.size f7) (cwV 2 hG (gV g_817 g_818 g_819 g_77 g_820) rfl rfl rfl (by decide +kernel) ⟨Nat.le_of_ble_eq_true rfl, Nat.le_of_ble_eq_true rfl⟩) ⟨pre_blind, va_recv hK hPc (ci := 7) (q0 := 0) rfl rfl, fun U hU hW => ⟨rfl, pre_of hPc hK hDc hnw hU hW⟩⟩ rfl rfl hl.1 rfl (lv_room (Nat.le_of_ble_eq_true rfl)) dL_law_845 ⟨Nat.le_of_ble_eq_true rfl, Nat.le_of_ble_eq_true rfl⟩) hS (fun q _ h => hFc q h) hFc (fun v6 u t H locs ht hvm hw hB hz1 hk1 hS => ?_)
  have hw := hw.symm; subst hw
  obtain ⟨hP1, hD1⟩ := hB
  rw [ht] at hP1
  obtain ⟨hP, hD⟩ := joinR hP hD hk1 hFc hP1 hD1
  refine lv_icmp_eq (tgt := 991) hx hb dL_law_848 (by decide) (fun cc => ?_) (fun cc => ?_)
  · exact K a C M _ _ _ hR2 hP hD hS hl
  · exact absurd rfl cc
set_option maxHeartbeats 4000000 in
set_option maxRecDepth 100000 in
theorem law_case_23 {p : Program} {l : Launch} {e : Env} {s : State} {m : MethodId} {below : List Frame} {meth : Method} {c : Code} {D : va_G} {cI cZ : ClassId} {b L : Nat} {xs : Nat → Int32} (C0 : lw_At p s m meth c b L xs) (hK : va_K D vwCl (TY cI cZ) s) (hnw : nwA s) {am : Nat → Nat} {i : Int32} (h1 : vp_in (i + 1) L) (h2 : vp_in (i + 2) L) (h3 : vp_in (i + 3) L) (a : Nat → Nat → Nat) (C : CC) (M : HC) (hR : Rel C M) (K : ∀ (a : Nat → Nat → Nat) (C : CC) (M : HC) (H : Heap) (locs : List Loc) (ls : Array Slot), Rel C M → va_P D vwCl (cW cI a C ++ kM cI cZ am M) H → va_D (fun q : Nat => s.heap.size ≤ q) (cW cI a C ++ kM cI cZ am M) → va_S (fun q : Nat => s.heap.size ≤ q) s.heap H locs → lv_has ls 4 [(0, .ref b), (1, .ref (a 0 0)), (2, .ref (am 0)), (3, .int i)] → W p l e room_1 s m #[Value.ref b] below meth c H locs 72 1324 (lw_Z below #[Value.ref b] s) (F0 m 991 ls [])) (H : Heap) (locs : List Loc) (ls : Array Slot) (hP : va_P D vwCl (cW cI a C ++ kM cI cZ am M) H) (hD : va_D (fun q : Nat => s.heap.size ≤ q) (cW cI a C ++ kM cI cZ am M)) (hS : va_S (fun q : Nat => s.heap.size ≤ q) s.heap H locs) (hl : lv_has ls 4 [(0, .ref b), (1, .ref (a 0 0)), (2, .ref (am 0)), (3, .int i)]) : W p l e room_1 s m #[Value.ref b] below meth c H locs 72 1324 (lw_Z below #[Value.ref b] s) (F0 m 853 ls []) := by
  obtain ⟨hx, hb, hr, hml, hown, hts, hX, hbl, hlocks, hgv⟩ := C0
  have hA : ∀ q : Nat, s.heap.size ≤ q → (fun q : Nat => s.heap.size ≤ q) q := fun _ h => h
  have hbA : ¬ (fun q : Nat => s.heap.size ≤ q) b := Nat.not_le.mpr hbl
  have hG : ∀ w ∈ GW, w.before #[Value.ref b] s = true := fun w h => hts w (GW_sub w h)
  obtain ⟨v, C2, M2, f6, f7, hR2⟩ := op_note hR (xs (Int32.toNatClampNeg (i + (1 : Int32)))) (xs (Int32.toNatClampNeg (i + (2 : Int32)))) (xs (Int32.toNatClampNeg (i + (3 : Int32))))
  refine lv_aload_n hx hb dL_law_853 rfl (lv_at hl 1 rfl) ?_
  refine lv_aload_n hx hb dL_law_854 rfl (lv_at hl 0 rfl) ?_
  refine lv_iload_n hx hb dL_law_855 rfl (lv_at hl 3 rfl) ?_
  refine lv_iconst (v := (1 : Int32)) hx hb dL_law_856 (by decide) ?_
  refine lv_iadd hx hb dL_law_857 ?_
  refine va_sld hx hb hX hbl hbA hS h1 dL_law_858 ?_
  refine lv_aload_n hx hb dL_law_859 rfl (lv_at hl 0 rfl) ?_
  refine lv_iload_n hx hb dL_law_860 rfl (lv_at hl 3 rfl) ?_
  refine lv_iconst (v := (2 : Int32)) hx hb dL_law_861 (by decide) ?_
  refine lv_iadd hx hb dL_law_862 ?_
  refine va_sld hx hb hX hbl hbA hS h2 dL_law_863 ?_
  refine lv_aload_n hx hb dL_law_864 rfl (lv_at hl 0 rfl) ?_
  refine lv_iload_n hx hb dL_law_865 rfl (lv_at hl 3 rfl) ?_
  refine lv_iconst (v := (3 : Int32)) hx hb dL_law_866 (by decide) ?_
  refine lv_iadd hx hb dL_law_867 ?_
  refine va_sld hx hb hX hbl hbA hS h3 dL_law_868 ?_
  have hPc := leftP hP
  have hDc := leftD hD
  have hFc := freeS hDc hS hA
  refine va_calli (va_runV (As := [.int (xs (Int32.toNatClampNeg (i + (1 : Int32)))), .int (xs (Int32.toNatClampNeg (i + (2 : Int32)))), .int (xs (Int32.toNatClampNeg (i + (3 : Int32))))]) (rest := []) ⟨hx, hb, hml, hown, hG⟩ (c_X6_note l D cI cZ a C (xs (Int32.toNatClampNeg (i + (1 : Int32)))) (xs (Int32.toNatClampNeg (i + (2 : Int32)))) (xs (Int32.toNatClampNeg (i + (3 : Int32)))) H.size f6) (cwV 3 hG (gV g_521 g_522 g_523 g_70 g_524) rfl rfl rfl (by decide +kernel) ⟨Nat.le_of_ble_eq_true rfl, Nat.le_of_ble_eq_true rfl⟩) ⟨pre_blind, va_recv hK hPc (ci := 6) (q0 := 0) rfl rfl, fun U hU hW => ⟨rfl, pre_of hPc hK hDc hnw hU hW⟩⟩ rfl rfl hl.1 rfl (lv_room (Nat.le_of_ble_eq_true rfl)) dL_law_869 ⟨Nat.le_of_ble_eq_true rfl, Nat.le_of_ble_eq_true rfl⟩) hS (fun q _ h => hFc q h) hFc (fun v5 u t H locs ht hvm hw hB hz1 hk1 hS => ?_)
  obtain ⟨hw1, hw2⟩ := hw
  have hw1 := hw1.symm
  have hw2 := hw2.symm
  subst hw1
  subst hw2
  obtain ⟨hP1, hD1⟩ := hB
  rw [ht] at hP1
  obtain ⟨hP, hD⟩ := joinL hP hD hk1 hFc hP1 hD1
  refine lv_aload_n hx hb dL_law_872 rfl (lv_at hl 2 rfl) ?_
  refine lv_aload_n hx hb dL_law_873 rfl (lv_at hl 0 rfl) ?_
  refine lv_iload_n hx hb dL_law_874 rfl (lv_at hl 3 rfl) ?_
  refine lv_iconst (v := (1 : Int32)) hx hb dL_law_875 (by decide) ?_
  refine lv_iadd hx hb dL_law_876 ?_
  refine va_sld hx hb hX hbl hbA hS h1 dL_law_877 ?_
  refine lv_aload_n hx hb dL_law_878 rfl (lv_at hl 0 rfl) ?_
  refine lv_iload_n hx hb dL_law_879 rfl (lv_at hl 3 rfl) ?_
  refine lv_iconst (v := (2 : Int32)) hx hb dL_law_880 (by decide) ?_
  refine lv_iadd hx hb dL_law_881 ?_
  refine va_sld hx hb hX hbl hbA hS h2 dL_law_882 ?_
  refine lv_aload_n hx hb dL_law_883 rfl (lv_at hl 0 rfl) ?_
  refine lv_iload_n hx hb dL_law_884 rfl (lv_at hl 3 rfl) ?_
  refine lv_iconst (v := (3 : Int32)) hx hb dL_law_885 (by decide) ?_
  refine lv_iadd hx hb dL_law_886 ?_
  refine va_sld hx hb hX hbl hbA hS h3 dL_law_887 ?_
  have hPc := rightP hP
  have hDc := rightD hD
  have hFc := freeS hDc hS hA
  refine va_calli (va_runV (As := [.int (xs (Int32.toNatClampNeg (i + (1 : Int32)))), .int (xs (Int32.toNatClampNeg (i + (2 : Int32)))), .int (xs (Int32.toNatClampNeg (i + (3 : Int32))))]) (rest := [.int v]) ⟨hx, hb, hml, hown, hG⟩ (c_X7_note l D cI cZ am M (xs (Int32.toNatClampNeg (i + (1 : Int32)))) (xs (Int32.toNatClampNeg (i + (2 : Int32)))) (xs (Int32.toNatClampNeg (i + (3 : Int32)))) H.size f7) (cwV 3 hG (gV g_824 g_825 g_826 g_77 g_827) rfl rfl rfl (by decide +kernel) ⟨Nat.le_of_ble_eq_true rfl, Nat.le_of_ble_eq_true rfl⟩) ⟨pre_blind, va_recv hK hPc (ci := 7) (q0 := 0) rfl rfl, fun U hU hW => ⟨rfl, pre_of hPc hK hDc hnw hU hW⟩⟩ rfl rfl hl.1 rfl (lv_room (Nat.le_of_ble_eq_true rfl)) dL_law_888 ⟨Nat.le_of_ble_eq_true rfl, Nat.le_of_ble_eq_true rfl⟩) hS (fun q _ h => hFc q h) hFc (fun v6 u t H locs ht hvm hw hB hz1 hk1 hS => ?_)
  obtain ⟨hw1, hw2⟩ := hw
  have hw1 := hw1.symm
  have hw2 := hw2.symm
  subst hw1
  subst hw2
  obtain ⟨hP1, hD1⟩ := hB
  rw [ht] at hP1
  obtain ⟨hP, hD⟩ := joinR hP hD hk1 hFc hP1 hD1
  refine lv_icmp_eq (tgt := 991) hx hb dL_law_891 (by decide) (fun cc => ?_) (fun cc => ?_)
  · exact K a C2 M2 _ _ _ hR2 hP hD hS hl
  · exact absurd rfl cc
set_option maxHeartbeats 4000000 in
set_option maxRecDepth 100000 in
theorem law_case_24 {p : Program} {l : Launch} {e : Env} {s : State} {m : MethodId} {below : List Frame} {meth : Method} {c : Code} {D : va_G} {cI cZ : ClassId} {b L : Nat} {xs : Nat → Int32} (C0 : lw_At p s m meth c b L xs) (hK : va_K D vwCl (TY cI cZ) s) (hnw : nwA s) {am : Nat → Nat} {i : Int32} (h1 : vp_in (i + 1) L) (h2 : vp_in (i + 2) L) (h3 : vp_in (i + 3) L) (a : Nat → Nat → Nat) (C : CC) (M : HC) (hR : Rel C M) (K : ∀ (a : Nat → Nat → Nat) (C : CC) (M : HC) (H : Heap) (locs : List Loc) (ls : Array Slot), Rel C M → va_P D vwCl (cW cI a C ++ kM cI cZ am M) H → va_D (fun q : Nat => s.heap.size ≤ q) (cW cI a C ++ kM cI cZ am M) → va_S (fun q : Nat => s.heap.size ≤ q) s.heap H locs → lv_has ls 4 [(0, .ref b), (1, .ref (a 0 0)), (2, .ref (am 0)), (3, .int i)] → W p l e room_1 s m #[Value.ref b] below meth c H locs 72 1324 (lw_Z below #[Value.ref b] s) (F0 m 991 ls [])) (H : Heap) (locs : List Loc) (ls : Array Slot) (hP : va_P D vwCl (cW cI a C ++ kM cI cZ am M) H) (hD : va_D (fun q : Nat => s.heap.size ≤ q) (cW cI a C ++ kM cI cZ am M)) (hS : va_S (fun q : Nat => s.heap.size ≤ q) s.heap H locs) (hl : lv_has ls 4 [(0, .ref b), (1, .ref (a 0 0)), (2, .ref (am 0)), (3, .int i)]) : W p l e room_1 s m #[Value.ref b] below meth c H locs 72 1324 (lw_Z below #[Value.ref b] s) (F0 m 896 ls []) := by
  obtain ⟨hx, hb, hr, hml, hown, hts, hX, hbl, hlocks, hgv⟩ := C0
  have hA : ∀ q : Nat, s.heap.size ≤ q → (fun q : Nat => s.heap.size ≤ q) q := fun _ h => h
  have hbA : ¬ (fun q : Nat => s.heap.size ≤ q) b := Nat.not_le.mpr hbl
  have hG : ∀ w ∈ GW, w.before #[Value.ref b] s = true := fun w h => hts w (GW_sub w h)
  obtain ⟨v, C2, M2, f6, f7, hR2⟩ := op_tear hR 
  refine lv_aload_n hx hb dL_law_896 rfl (lv_at hl 1 rfl) ?_
  have hPc := leftP hP
  have hDc := leftD hD
  have hFc := freeS hDc hS hA
  refine va_calli (va_runV (As := []) (rest := []) ⟨hx, hb, hml, hown, hG⟩ (c_X6_tear l D cI cZ a C H.size f6) (cwV 0 hG (gV g_530 g_531 g_532 g_70 g_533) rfl rfl rfl (by decide +kernel) ⟨Nat.le_of_ble_eq_true rfl, Nat.le_of_ble_eq_true rfl⟩) ⟨pre_blind, va_recv hK hPc (ci := 6) (q0 := 0) rfl rfl, fun U hU hW => ⟨rfl, pre_of hPc hK hDc hnw hU hW⟩⟩ rfl rfl hl.1 rfl (lv_room (Nat.le_of_ble_eq_true rfl)) dL_law_897 ⟨Nat.le_of_ble_eq_true rfl, Nat.le_of_ble_eq_true rfl⟩) hS (fun q _ h => hFc q h) hFc (fun v5 u t H locs ht hvm hw hB hz1 hk1 hS => ?_)
  obtain ⟨hw1, hw2⟩ := hw
  have hw1 := hw1.symm
  have hw2 := hw2.symm
  subst hw1
  subst hw2
  obtain ⟨hP1, hD1⟩ := hB
  rw [ht] at hP1
  obtain ⟨hP, hD⟩ := joinL hP hD hk1 hFc hP1 hD1
  refine lv_aload_n hx hb dL_law_900 rfl (lv_at hl 2 rfl) ?_
  have hPc := rightP hP
  have hDc := rightD hD
  have hFc := freeS hDc hS hA
  refine va_calli (va_runV (As := []) (rest := [.int v]) ⟨hx, hb, hml, hown, hG⟩ (c_X7_tear l D cI cZ am M H.size f7) (cwV 0 hG (gV g_828 g_829 g_830 g_77 g_831) rfl rfl rfl (by decide +kernel) ⟨Nat.le_of_ble_eq_true rfl, Nat.le_of_ble_eq_true rfl⟩) ⟨pre_blind, va_recv hK hPc (ci := 7) (q0 := 0) rfl rfl, fun U hU hW => ⟨rfl, pre_of hPc hK hDc hnw hU hW⟩⟩ rfl rfl hl.1 rfl (lv_room (Nat.le_of_ble_eq_true rfl)) dL_law_901 ⟨Nat.le_of_ble_eq_true rfl, Nat.le_of_ble_eq_true rfl⟩) hS (fun q _ h => hFc q h) hFc (fun v6 u t H locs ht hvm hw hB hz1 hk1 hS => ?_)
  obtain ⟨hw1, hw2⟩ := hw
  have hw1 := hw1.symm
  have hw2 := hw2.symm
  subst hw1
  subst hw2
  obtain ⟨hP1, hD1⟩ := hB
  rw [ht] at hP1
  obtain ⟨hP, hD⟩ := joinR hP hD hk1 hFc hP1 hD1
  refine lv_icmp_eq (tgt := 991) hx hb dL_law_904 (by decide) (fun cc => ?_) (fun cc => ?_)
  · exact K a C2 M2 _ _ _ hR2 hP hD hS hl
  · exact absurd rfl cc
set_option maxHeartbeats 4000000 in
set_option maxRecDepth 100000 in
theorem law_case_25 {p : Program} {l : Launch} {e : Env} {s : State} {m : MethodId} {below : List Frame} {meth : Method} {c : Code} {D : va_G} {cI cZ : ClassId} {b L : Nat} {xs : Nat → Int32} (C0 : lw_At p s m meth c b L xs) (hK : va_K D vwCl (TY cI cZ) s) (hnw : nwA s) {am : Nat → Nat} {i : Int32} (h1 : vp_in (i + 1) L) (h2 : vp_in (i + 2) L) (h3 : vp_in (i + 3) L) (a : Nat → Nat → Nat) (C : CC) (M : HC) (hR : Rel C M) (K : ∀ (a : Nat → Nat → Nat) (C : CC) (M : HC) (H : Heap) (locs : List Loc) (ls : Array Slot), Rel C M → va_P D vwCl (cW cI a C ++ kM cI cZ am M) H → va_D (fun q : Nat => s.heap.size ≤ q) (cW cI a C ++ kM cI cZ am M) → va_S (fun q : Nat => s.heap.size ≤ q) s.heap H locs → lv_has ls 4 [(0, .ref b), (1, .ref (a 0 0)), (2, .ref (am 0)), (3, .int i)] → W p l e room_1 s m #[Value.ref b] below meth c H locs 72 1324 (lw_Z below #[Value.ref b] s) (F0 m 991 ls [])) (H : Heap) (locs : List Loc) (ls : Array Slot) (hP : va_P D vwCl (cW cI a C ++ kM cI cZ am M) H) (hD : va_D (fun q : Nat => s.heap.size ≤ q) (cW cI a C ++ kM cI cZ am M)) (hS : va_S (fun q : Nat => s.heap.size ≤ q) s.heap H locs) (hl : lv_has ls 4 [(0, .ref b), (1, .ref (a 0 0)), (2, .ref (am 0)), (3, .int i)]) : W p l e room_1 s m #[Value.ref b] below meth c H locs 72 1324 (lw_Z below #[Value.ref b] s) (F0 m 909 ls []) := by
  obtain ⟨hx, hb, hr, hml, hown, hts, hX, hbl, hlocks, hgv⟩ := C0
  have hA : ∀ q : Nat, s.heap.size ≤ q → (fun q : Nat => s.heap.size ≤ q) q := fun _ h => h
  have hbA : ¬ (fun q : Nat => s.heap.size ≤ q) b := Nat.not_le.mpr hbl
  have hG : ∀ w ∈ GW, w.before #[Value.ref b] s = true := fun w h => hts w (GW_sub w h)
  obtain ⟨v, f6, f7, hR2⟩ := op_judge hR 
  refine lv_aload_n hx hb dL_law_909 rfl (lv_at hl 1 rfl) ?_
  have hPc := leftP hP
  have hDc := leftD hD
  have hFc := freeS hDc hS hA
  refine va_calli (va_runV (As := []) (rest := []) ⟨hx, hb, hml, hown, hG⟩ (c_X6_judge l D cI cZ a C H.size f6) (cwV 0 hG (gV g_534 g_535 g_536 g_70 g_537) rfl rfl rfl (by decide +kernel) ⟨Nat.le_of_ble_eq_true rfl, Nat.le_of_ble_eq_true rfl⟩) ⟨pre_blind, va_recv hK hPc (ci := 6) (q0 := 0) rfl rfl, fun U hU hW => ⟨rfl, pre_of hPc hK hDc hnw hU hW⟩⟩ rfl rfl hl.1 rfl (lv_room (Nat.le_of_ble_eq_true rfl)) dL_law_910 ⟨Nat.le_of_ble_eq_true rfl, Nat.le_of_ble_eq_true rfl⟩) hS (fun q _ h => hFc q h) hFc (fun v5 u t H locs ht hvm hw hB hz1 hk1 hS => ?_)
  have hw := hw.symm; subst hw
  obtain ⟨hP1, hD1⟩ := hB
  rw [ht] at hP1
  obtain ⟨hP, hD⟩ := joinL hP hD hk1 hFc hP1 hD1
  refine lv_aload_n hx hb dL_law_913 rfl (lv_at hl 2 rfl) ?_
  have hPc := rightP hP
  have hDc := rightD hD
  have hFc := freeS hDc hS hA
  refine va_calli (va_runV (As := []) (rest := [.int v]) ⟨hx, hb, hml, hown, hG⟩ (c_X7_judge l D cI cZ am M H.size f7) (cwV 0 hG (gV g_832 g_833 g_834 g_77 g_835) rfl rfl rfl (by decide +kernel) ⟨Nat.le_of_ble_eq_true rfl, Nat.le_of_ble_eq_true rfl⟩) ⟨pre_blind, va_recv hK hPc (ci := 7) (q0 := 0) rfl rfl, fun U hU hW => ⟨rfl, pre_of hPc hK hDc hnw hU hW⟩⟩ rfl rfl hl.1 rfl (lv_room (Nat.le_of_ble_eq_true rfl)) dL_law_914 ⟨Nat.le_of_ble_eq_true rfl, Nat.le_of_ble_eq_true rfl⟩) hS (fun q _ h => hFc q h) hFc (fun v6 u t H locs ht hvm hw hB hz1 hk1 hS => ?_)
  have hw := hw.symm; subst hw
  obtain ⟨hP1, hD1⟩ := hB
  rw [ht] at hP1
  obtain ⟨hP, hD⟩ := joinR hP hD hk1 hFc hP1 hD1
  refine lv_icmp_eq (tgt := 991) hx hb dL_law_917 (by decide) (fun cc => ?_) (fun cc => ?_)
  · exact K a C M _ _ _ hR2 hP hD hS hl
  · exact absurd rfl cc
set_option maxHeartbeats 4000000 in
set_option maxRecDepth 100000 in
theorem law_case_26 {p : Program} {l : Launch} {e : Env} {s : State} {m : MethodId} {below : List Frame} {meth : Method} {c : Code} {D : va_G} {cI cZ : ClassId} {b L : Nat} {xs : Nat → Int32} (C0 : lw_At p s m meth c b L xs) (hK : va_K D vwCl (TY cI cZ) s) (hnw : nwA s) {am : Nat → Nat} {i : Int32} (h1 : vp_in (i + 1) L) (h2 : vp_in (i + 2) L) (h3 : vp_in (i + 3) L) (a : Nat → Nat → Nat) (C : CC) (M : HC) (hR : Rel C M) (K : ∀ (a : Nat → Nat → Nat) (C : CC) (M : HC) (H : Heap) (locs : List Loc) (ls : Array Slot), Rel C M → va_P D vwCl (cW cI a C ++ kM cI cZ am M) H → va_D (fun q : Nat => s.heap.size ≤ q) (cW cI a C ++ kM cI cZ am M) → va_S (fun q : Nat => s.heap.size ≤ q) s.heap H locs → lv_has ls 4 [(0, .ref b), (1, .ref (a 0 0)), (2, .ref (am 0)), (3, .int i)] → W p l e room_1 s m #[Value.ref b] below meth c H locs 72 1324 (lw_Z below #[Value.ref b] s) (F0 m 991 ls [])) (H : Heap) (locs : List Loc) (ls : Array Slot) (hP : va_P D vwCl (cW cI a C ++ kM cI cZ am M) H) (hD : va_D (fun q : Nat => s.heap.size ≤ q) (cW cI a C ++ kM cI cZ am M)) (hS : va_S (fun q : Nat => s.heap.size ≤ q) s.heap H locs) (hl : lv_has ls 4 [(0, .ref b), (1, .ref (a 0 0)), (2, .ref (am 0)), (3, .int i)]) : W p l e room_1 s m #[Value.ref b] below meth c H locs 72 1324 (lw_Z below #[Value.ref b] s) (F0 m 922 ls []) := by
  obtain ⟨hx, hb, hr, hml, hown, hts, hX, hbl, hlocks, hgv⟩ := C0
  have hA : ∀ q : Nat, s.heap.size ≤ q → (fun q : Nat => s.heap.size ≤ q) q := fun _ h => h
  have hbA : ¬ (fun q : Nat => s.heap.size ≤ q) b := Nat.not_le.mpr hbl
  have hG : ∀ w ∈ GW, w.before #[Value.ref b] s = true := fun w h => hts w (GW_sub w h)
  obtain ⟨v, C2, M2, f6, f7, hR2⟩ := op_seed hR (xs (Int32.toNatClampNeg (i + (1 : Int32))))
  refine lv_aload_n hx hb dL_law_922 rfl (lv_at hl 1 rfl) ?_
  refine lv_aload_n hx hb dL_law_923 rfl (lv_at hl 0 rfl) ?_
  refine lv_iload_n hx hb dL_law_924 rfl (lv_at hl 3 rfl) ?_
  refine lv_iconst (v := (1 : Int32)) hx hb dL_law_925 (by decide) ?_
  refine lv_iadd hx hb dL_law_926 ?_
  refine va_sld hx hb hX hbl hbA hS h1 dL_law_927 ?_
  have hPc := leftP hP
  have hDc := leftD hD
  have hFc := freeS hDc hS hA
  refine va_calli (va_runV (As := [.int (xs (Int32.toNatClampNeg (i + (1 : Int32))))]) (rest := []) ⟨hx, hb, hml, hown, hG⟩ (c_X6_seed l D cI cZ a C (xs (Int32.toNatClampNeg (i + (1 : Int32)))) H.size f6) (cwV 1 hG (gV g_542 g_543 g_544 g_70 g_545) rfl rfl rfl (by decide +kernel) ⟨Nat.le_of_ble_eq_true rfl, Nat.le_of_ble_eq_true rfl⟩) ⟨pre_blind, va_recv hK hPc (ci := 6) (q0 := 0) rfl rfl, fun U hU hW => ⟨rfl, pre_of hPc hK hDc hnw hU hW⟩⟩ rfl rfl hl.1 rfl (lv_room (Nat.le_of_ble_eq_true rfl)) dL_law_928 ⟨Nat.le_of_ble_eq_true rfl, Nat.le_of_ble_eq_true rfl⟩) hS (fun q _ h => hFc q h) hFc (fun v5 u t H locs ht hvm hw hB hz1 hk1 hS => ?_)
  obtain ⟨hw1, hw2⟩ := hw
  have hw1 := hw1.symm
  have hw2 := hw2.symm
  subst hw1
  subst hw2
  obtain ⟨hP1, hD1⟩ := hB
  rw [ht] at hP1
  obtain ⟨hP, hD⟩ := joinL hP hD hk1 hFc hP1 hD1
  refine lv_aload_n hx hb dL_law_931 rfl (lv_at hl 2 rfl) ?_
  refine lv_aload_n hx hb dL_law_932 rfl (lv_at hl 0 rfl) ?_
  refine lv_iload_n hx hb dL_law_933 rfl (lv_at hl 3 rfl) ?_
  refine lv_iconst (v := (1 : Int32)) hx hb dL_law_934 (by decide) ?_
  refine lv_iadd hx hb dL_law_935 ?_
  refine va_sld hx hb hX hbl hbA hS h1 dL_law_936 ?_
  have hPc := rightP hP
  have hDc := rightD hD
  have hFc := freeS hDc hS hA
  refine va_calli (va_runV (As := [.int (xs (Int32.toNatClampNeg (i + (1 : Int32))))]) (rest := [.int v]) ⟨hx, hb, hml, hown, hG⟩ (c_X7_seed l D cI cZ am M (xs (Int32.toNatClampNeg (i + (1 : Int32)))) H.size f7) (cwV 1 hG (gV g_836 g_837 g_838 g_77 g_839) rfl rfl rfl (by decide +kernel) ⟨Nat.le_of_ble_eq_true rfl, Nat.le_of_ble_eq_true rfl⟩) ⟨pre_blind, va_recv hK hPc (ci := 7) (q0 := 0) rfl rfl, fun U hU hW => ⟨rfl, pre_of hPc hK hDc hnw hU hW⟩⟩ rfl rfl hl.1 rfl (lv_room (Nat.le_of_ble_eq_true rfl)) dL_law_937 ⟨Nat.le_of_ble_eq_true rfl, Nat.le_of_ble_eq_true rfl⟩) hS (fun q _ h => hFc q h) hFc (fun v6 u t H locs ht hvm hw hB hz1 hk1 hS => ?_)
  obtain ⟨hw1, hw2⟩ := hw
  have hw1 := hw1.symm
  have hw2 := hw2.symm
  subst hw1
  subst hw2
  obtain ⟨hP1, hD1⟩ := hB
  rw [ht] at hP1
  obtain ⟨hP, hD⟩ := joinR hP hD hk1 hFc hP1 hD1
  refine lv_icmp_eq (tgt := 991) hx hb dL_law_940 (by decide) (fun cc => ?_) (fun cc => ?_)
  · exact K a C2 M2 _ _ _ hR2 hP hD hS hl
  · exact absurd rfl cc
set_option maxHeartbeats 4000000 in
set_option maxRecDepth 100000 in
theorem law_case_27 {p : Program} {l : Launch} {e : Env} {s : State} {m : MethodId} {below : List Frame} {meth : Method} {c : Code} {D : va_G} {cI cZ : ClassId} {b L : Nat} {xs : Nat → Int32} (C0 : lw_At p s m meth c b L xs) (hK : va_K D vwCl (TY cI cZ) s) (hnw : nwA s) {am : Nat → Nat} {i : Int32} (h1 : vp_in (i + 1) L) (h2 : vp_in (i + 2) L) (h3 : vp_in (i + 3) L) (a : Nat → Nat → Nat) (C : CC) (M : HC) (hR : Rel C M) (K : ∀ (a : Nat → Nat → Nat) (C : CC) (M : HC) (H : Heap) (locs : List Loc) (ls : Array Slot), Rel C M → va_P D vwCl (cW cI a C ++ kM cI cZ am M) H → va_D (fun q : Nat => s.heap.size ≤ q) (cW cI a C ++ kM cI cZ am M) → va_S (fun q : Nat => s.heap.size ≤ q) s.heap H locs → lv_has ls 4 [(0, .ref b), (1, .ref (a 0 0)), (2, .ref (am 0)), (3, .int i)] → W p l e room_1 s m #[Value.ref b] below meth c H locs 72 1324 (lw_Z below #[Value.ref b] s) (F0 m 991 ls [])) (H : Heap) (locs : List Loc) (ls : Array Slot) (hP : va_P D vwCl (cW cI a C ++ kM cI cZ am M) H) (hD : va_D (fun q : Nat => s.heap.size ≤ q) (cW cI a C ++ kM cI cZ am M)) (hS : va_S (fun q : Nat => s.heap.size ≤ q) s.heap H locs) (hl : lv_has ls 4 [(0, .ref b), (1, .ref (a 0 0)), (2, .ref (am 0)), (3, .int i)]) : W p l e room_1 s m #[Value.ref b] below meth c H locs 72 1324 (lw_Z below #[Value.ref b] s) (F0 m 945 ls []) := by
  obtain ⟨hx, hb, hr, hml, hown, hts, hX, hbl, hlocks, hgv⟩ := C0
  have hA : ∀ q : Nat, s.heap.size ≤ q → (fun q : Nat => s.heap.size ≤ q) q := fun _ h => h
  have hbA : ¬ (fun q : Nat => s.heap.size ≤ q) b := Nat.not_le.mpr hbl
  have hG : ∀ w ∈ GW, w.before #[Value.ref b] s = true := fun w h => hts w (GW_sub w h)
  obtain ⟨v, C2, M2, f6, f7, hR2⟩ := op_keep hR (xs (Int32.toNatClampNeg (i + (1 : Int32))))
  refine lv_aload_n hx hb dL_law_945 rfl (lv_at hl 1 rfl) ?_
  refine lv_aload_n hx hb dL_law_946 rfl (lv_at hl 0 rfl) ?_
  refine lv_iload_n hx hb dL_law_947 rfl (lv_at hl 3 rfl) ?_
  refine lv_iconst (v := (1 : Int32)) hx hb dL_law_948 (by decide) ?_
  refine lv_iadd hx hb dL_law_949 ?_
  refine va_sld hx hb hX hbl hbA hS h1 dL_law_950 ?_
  have hPc := leftP hP
  have hDc := leftD hD
  have hFc := freeS hDc hS hA
  refine va_calli (va_runV (As := [.int (xs (Int32.toNatClampNeg (i + (1 : Int32))))]) (rest := []) ⟨hx, hb, hml, hown, hG⟩ (c_X6_keep l D cI cZ a C (xs (Int32.toNatClampNeg (i + (1 : Int32)))) H.size f6) (cwV 1 hG (gV g_546 g_547 g_548 g_70 g_549) rfl rfl rfl (by decide +kernel) ⟨Nat.le_of_ble_eq_true rfl, Nat.le_of_ble_eq_true rfl⟩) ⟨pre_blind, va_recv hK hPc (ci := 6) (q0 := 0) rfl rfl, fun U hU hW => ⟨rfl, pre_of hPc hK hDc hnw hU hW⟩⟩ rfl rfl hl.1 rfl (lv_room (Nat.le_of_ble_eq_true rfl)) dL_law_951 ⟨Nat.le_of_ble_eq_true rfl, Nat.le_of_ble_eq_true rfl⟩) hS (fun q _ h => hFc q h) hFc (fun v5 u t H locs ht hvm hw hB hz1 hk1 hS => ?_)
  obtain ⟨hw1, hw2⟩ := hw
  have hw1 := hw1.symm
  have hw2 := hw2.symm
  subst hw1
  subst hw2
  obtain ⟨hP1, hD1⟩ := hB
  rw [ht] at hP1
  obtain ⟨hP, hD⟩ := joinL hP hD hk1 hFc hP1 hD1
  refine lv_aload_n hx hb dL_law_954 rfl (lv_at hl 2 rfl) ?_
  refine lv_aload_n hx hb dL_law_955 rfl (lv_at hl 0 rfl) ?_
  refine lv_iload_n hx hb dL_law_956 rfl (lv_at hl 3 rfl) ?_
  refine lv_iconst (v := (1 : Int32)) hx hb dL_law_957 (by decide) ?_
  refine lv_iadd hx hb dL_law_958 ?_
  refine va_sld hx hb hX hbl hbA hS h1 dL_law_959 ?_
  have hPc := rightP hP
  have hDc := rightD hD
  have hFc := freeS hDc hS hA
  refine va_calli (va_runV (As := [.int (xs (Int32.toNatClampNeg (i + (1 : Int32))))]) (rest := [.int v]) ⟨hx, hb, hml, hown, hG⟩ (c_X7_keep l D cI cZ am M (xs (Int32.toNatClampNeg (i + (1 : Int32)))) H.size f7) (cwV 1 hG (gV g_840 g_841 g_842 g_77 g_843) rfl rfl rfl (by decide +kernel) ⟨Nat.le_of_ble_eq_true rfl, Nat.le_of_ble_eq_true rfl⟩) ⟨pre_blind, va_recv hK hPc (ci := 7) (q0 := 0) rfl rfl, fun U hU hW => ⟨rfl, pre_of hPc hK hDc hnw hU hW⟩⟩ rfl rfl hl.1 rfl (lv_room (Nat.le_of_ble_eq_true rfl)) dL_law_960 ⟨Nat.le_of_ble_eq_true rfl, Nat.le_of_ble_eq_true rfl⟩) hS (fun q _ h => hFc q h) hFc (fun v6 u t H locs ht hvm hw hB hz1 hk1 hS => ?_)
  obtain ⟨hw1, hw2⟩ := hw
  have hw1 := hw1.symm
  have hw2 := hw2.symm
  subst hw1
  subst hw2
  obtain ⟨hP1, hD1⟩ := hB
  rw [ht] at hP1
  obtain ⟨hP, hD⟩ := joinR hP hD hk1 hFc hP1 hD1
  refine lv_icmp_eq (tgt := 991) hx hb dL_law_963 (by decide) (fun cc => ?_) (fun cc => ?_)
  · exact K a C2 M2 _ _ _ hR2 hP hD hS hl
  · exact absurd rfl cc
set_option maxHeartbeats 4000000 in
set_option maxRecDepth 100000 in
theorem law_case_28 {p : Program} {l : Launch} {e : Env} {s : State} {m : MethodId} {below : List Frame} {meth : Method} {c : Code} {D : va_G} {cI cZ : ClassId} {b L : Nat} {xs : Nat → Int32} (C0 : lw_At p s m meth c b L xs) (hK : va_K D vwCl (TY cI cZ) s) (hnw : nwA s) {am : Nat → Nat} {i : Int32} (h1 : vp_in (i + 1) L) (h2 : vp_in (i + 2) L) (h3 : vp_in (i + 3) L) (a : Nat → Nat → Nat) (C : CC) (M : HC) (hR : Rel C M) (K : ∀ (a : Nat → Nat → Nat) (C : CC) (M : HC) (H : Heap) (locs : List Loc) (ls : Array Slot), Rel C M → va_P D vwCl (cW cI a C ++ kM cI cZ am M) H → va_D (fun q : Nat => s.heap.size ≤ q) (cW cI a C ++ kM cI cZ am M) → va_S (fun q : Nat => s.heap.size ≤ q) s.heap H locs → lv_has ls 4 [(0, .ref b), (1, .ref (a 0 0)), (2, .ref (am 0)), (3, .int i)] → W p l e room_1 s m #[Value.ref b] below meth c H locs 72 1324 (lw_Z below #[Value.ref b] s) (F0 m 991 ls [])) (H : Heap) (locs : List Loc) (ls : Array Slot) (hP : va_P D vwCl (cW cI a C ++ kM cI cZ am M) H) (hD : va_D (fun q : Nat => s.heap.size ≤ q) (cW cI a C ++ kM cI cZ am M)) (hS : va_S (fun q : Nat => s.heap.size ≤ q) s.heap H locs) (hl : lv_has ls 4 [(0, .ref b), (1, .ref (a 0 0)), (2, .ref (am 0)), (3, .int i)]) : W p l e room_1 s m #[Value.ref b] below meth c H locs 72 1324 (lw_Z below #[Value.ref b] s) (F0 m 968 ls []) := by
  obtain ⟨hx, hb, hr, hml, hown, hts, hX, hbl, hlocks, hgv⟩ := C0
  have hA : ∀ q : Nat, s.heap.size ≤ q → (fun q : Nat => s.heap.size ≤ q) q := fun _ h => h
  have hbA : ¬ (fun q : Nat => s.heap.size ≤ q) b := Nat.not_le.mpr hbl
  have hG : ∀ w ∈ GW, w.before #[Value.ref b] s = true := fun w h => hts w (GW_sub w h)
  obtain ⟨v, C2, M2, f6, f7, hR2⟩ := op_goBack hR (xs (Int32.toNatClampNeg (i + (1 : Int32))))
  refine lv_aload_n hx hb dL_law_968 rfl (lv_at hl 1 rfl) ?_
  refine lv_aload_n hx hb dL_law_969 rfl (lv_at hl 0 rfl) ?_
  refine lv_iload_n hx hb dL_law_970 rfl (lv_at hl 3 rfl) ?_
  refine lv_iconst (v := (1 : Int32)) hx hb dL_law_971 (by decide) ?_
  refine lv_iadd hx hb dL_law_972 ?_
  refine va_sld hx hb hX hbl hbA hS h1 dL_law_973 ?_
  have hPc := leftP hP
  have hDc := leftD hD
  have hFc := freeS hDc hS hA
  refine va_calli (va_runV (As := [.int (xs (Int32.toNatClampNeg (i + (1 : Int32))))]) (rest := []) ⟨hx, hb, hml, hown, hG⟩ (c_X6_goBack l D cI cZ a C (xs (Int32.toNatClampNeg (i + (1 : Int32)))) H.size f6) (cwV 1 hG (gV g_554 g_555 g_556 g_70 g_557) rfl rfl rfl (by decide +kernel) ⟨Nat.le_of_ble_eq_true rfl, Nat.le_of_ble_eq_true rfl⟩) ⟨pre_blind, va_recv hK hPc (ci := 6) (q0 := 0) rfl rfl, fun U hU hW => ⟨rfl, pre_of hPc hK hDc hnw hU hW⟩⟩ rfl rfl hl.1 rfl (lv_room (Nat.le_of_ble_eq_true rfl)) dL_law_974 ⟨Nat.le_of_ble_eq_true rfl, Nat.le_of_ble_eq_true rfl⟩) hS (fun q _ h => hFc q h) hFc (fun v5 u t H locs ht hvm hw hB hz1 hk1 hS => ?_)
  obtain ⟨hw1, hw2⟩ := hw
  have hw1 := hw1.symm
  have hw2 := hw2.symm
  subst hw1
  subst hw2
  obtain ⟨hP1, hD1⟩ := hB
  rw [ht] at hP1
  obtain ⟨hP, hD⟩ := joinL hP hD hk1 hFc hP1 hD1
  refine lv_aload_n hx hb dL_law_977 rfl (lv_at hl 2 rfl) ?_
  refine lv_aload_n hx hb dL_law_978 rfl (lv_at hl 0 rfl) ?_
  refine lv_iload_n hx hb dL_law_979 rfl (lv_at hl 3 rfl) ?_
  refine lv_iconst (v := (1 : Int32)) hx hb dL_law_980 (by decide) ?_
  refine lv_iadd hx hb dL_law_981 ?_
  refine va_sld hx hb hX hbl hbA hS h1 dL_law_982 ?_
  have hPc := rightP hP
  have hDc := rightD hD
  have hFc := freeS hDc hS hA
  refine va_calli (va_runV (As := [.int (xs (Int32.toNatClampNeg (i + (1 : Int32))))]) (rest := [.int v]) ⟨hx, hb, hml, hown, hG⟩ (c_X7_goBack l D cI cZ am M (xs (Int32.toNatClampNeg (i + (1 : Int32)))) H.size f7) (cwV 1 hG (gV g_847 g_848 g_849 g_77 g_850) rfl rfl rfl (by decide +kernel) ⟨Nat.le_of_ble_eq_true rfl, Nat.le_of_ble_eq_true rfl⟩) ⟨pre_blind, va_recv hK hPc (ci := 7) (q0 := 0) rfl rfl, fun U hU hW => ⟨rfl, pre_of hPc hK hDc hnw hU hW⟩⟩ rfl rfl hl.1 rfl (lv_room (Nat.le_of_ble_eq_true rfl)) dL_law_983 ⟨Nat.le_of_ble_eq_true rfl, Nat.le_of_ble_eq_true rfl⟩) hS (fun q _ h => hFc q h) hFc (fun v6 u t H locs ht hvm hw hB hz1 hk1 hS => ?_)
  obtain ⟨hw1, hw2⟩ := hw
  have hw1 := hw1.symm
  have hw2 := hw2.symm
  subst hw1
  subst hw2
  obtain ⟨hP1, hD1⟩ := hB
  rw [ht] at hP1
  obtain ⟨hP, hD⟩ := joinR hP hD hk1 hFc hP1 hD1
  refine lv_icmp_eq (tgt := 991) hx hb dL_law_986 (by decide) (fun cc => ?_) (fun cc => ?_)
  · exact K a C2 M2 _ _ _ hR2 hP hD hS hl
  · exact absurd rfl cc
set_option maxHeartbeats 4000000 in
set_option maxRecDepth 100000 in
theorem law_loop {p : Program} {l : Launch} {e : Env} {s : State} {m : MethodId} {below : List Frame} {meth : Method} {c : Code} {D : va_G} {cI cZ : ClassId} {b L : Nat} {xs : Nat → Int32} (hL : L ≤ 2048) (C0 : lw_At p s m meth c b L xs) (hK : va_K D vwCl (TY cI cZ) s) (hnw : nwA s) {am : Nat → Nat} : ∀ (n k : Nat) (i : Int32), 4 * k ≤ L + 3 → L + 4 ≤ 4 * k + n → i = nI (4 * k) → ∀ (a : Nat → Nat → Nat) (C : CC) (M : HC) (H : Heap) (locs : List Loc) (ls : Array Slot), Rel C M → va_P D vwCl (cW cI a C ++ kM cI cZ am M) H → va_D (fun q : Nat => s.heap.size ≤ q) (cW cI a C ++ kM cI cZ am M) → va_S (fun q : Nat => s.heap.size ≤ q) s.heap H locs → lv_has ls 4 [(0, .ref b), (1, .ref (a 0 0)), (2, .ref (am 0)), (3, .int i)] → W p l e room_1 s m #[Value.ref b] below meth c H locs 72 1324 (lw_Z below #[Value.ref b] s) (F0 m 18 ls []) := by
  obtain ⟨hx, hb, hr, hml, hown, hts, hX, hbl, hlocks, hgv⟩ := id C0
  have hbA : ¬ (fun q : Nat => s.heap.size ≤ q) b := Nat.not_le.mpr hbl
  intro n
  induction n with
  | zero => intro k i h1 h2; omega
  | succ n ih =>
    intro k i hk1 hk2 ei a C M H locs ls hR hP hD hS hl
    refine lv_iload_n hx hb dL_law_18 rfl (lv_at hl 3 rfl) ?_
    refine lv_aload_n hx hb dL_law_19 rfl (lv_at hl 0 rfl) ?_
    refine va_slen hx hb hX hbl hbA hS dL_law_20 ?_
    refine lv_iconst (v := (4 : Int32)) hx hb dL_law_21 (by decide) ?_
    refine lv_isub hx hb dL_law_22 ?_
    have eL : (Int32.ofNat L - (4 : Int32)).toInt = (L : Int) - 4 := by
      have h4 : (4 : Int32).toInt = 4 := by decide
      have hLi : (Int32.ofNat L).toInt = (L : Int) := nI_toInt (n := L) (by omega)
      rw [t_sub (by rw [hLi, h4]; omega) (by rw [hLi, h4]; omega), hLi, h4]
    have eI : i.toInt = ((4 * k : Nat) : Int) := by rw [ei]; exact nI_toInt (by omega)
    refine lv_icmp_gt (tgt := 997) hx hb dL_law_23 (by decide) (fun cc => ?_) (fun cc => ?_)
    · refine lv_iconst (v := (1 : Int32)) hx hb dL_law_997 (by decide) ?_
      refine va_forget (fun q hq => hS.2.2 q hq) ?_
      exact lw_ret hx hb hr hlocks dL_law_998
    · have hlt : 4 * k + 4 ≤ L := by
        rw [Int32.lt_iff_toInt_lt, eL, eI] at cc
        omega
      have hq : ∀ j, j < 4 → vp_in (i + nI j) L := fun j hj => by rw [ei, nI_add]; exact vp_in_nI (by omega) (by omega)
      have h0 : vp_in i L := by rw [ei]; exact vp_in_nI (by omega) (by omega)
      have h1 : vp_in (i + 1) L := hq 1 (by omega)
      have h2 : vp_in (i + 2) L := hq 2 (by omega)
      have h3 : vp_in (i + 3) L := hq 3 (by omega)
      have K : ∀ (a : Nat → Nat → Nat) (C : CC) (M : HC) (H : Heap) (locs : List Loc) (ls : Array Slot), Rel C M → va_P D vwCl (cW cI a C ++ kM cI cZ am M) H → va_D (fun q : Nat => s.heap.size ≤ q) (cW cI a C ++ kM cI cZ am M) → va_S (fun q : Nat => s.heap.size ≤ q) s.heap H locs → lv_has ls 4 [(0, .ref b), (1, .ref (a 0 0)), (2, .ref (am 0)), (3, .int i)] → W p l e room_1 s m #[Value.ref b] below meth c H locs 72 1324 (lw_Z below #[Value.ref b] s) (F0 m 991 ls []) := by
        intro a C M H locs ls hR hP hD hS hl
        refine lv_iinc (v := i + 4) (lv' := [(3, .int (i + 4)), (0, .ref b), (1, .ref (a 0 0)), (2, .ref (am 0))]) hx hb dL_law_991 hl (k := 3) rfl rfl (by decide) rfl (fun ls hl => ?_)
        refine lv_goto (tgt := 18) hx hb dL_law_994 (by decide) ?_
        exact ih (k + 1) (i + 4) (by omega) (by omega) (by rw [ei]; exact nI_add (4 * k) 4) a C M _ _ _ hR hP hD hS (lv_sub hl [1, 2, 3, 0] rfl)
      refine lv_aload_n hx hb dL_law_26 rfl (lv_at hl 0 rfl) ?_
      refine lv_iload_n hx hb dL_law_27 rfl (lv_at hl 3 rfl) ?_
      refine va_sld hx hb hX hbl hbA hS h0 dL_law_28 ?_
      refine lv_bipush (v := (31 : Int32)) hx hb dL_law_29 (by decide) ?_
      refine lv_iand hx hb dL_law_31 ?_
      refine lv_topi (fun w ew => ?_)
      by_cases sw0 : w = (0 : Int32)
      · exact lv_tabK (tgt := 164) (k := (0 : Int32)) hx hb dL_law_32 sw0 (by decide) (by decide) rfl (by decide) (law_case_0 C0 hK hnw h1 h2 h3 a C M hR K _ _ _ hP hD hS hl)
      by_cases sw1 : w = (1 : Int32)
      · exact lv_tabK (tgt := 187) (k := (1 : Int32)) hx hb dL_law_32 sw1 (by decide) (by decide) rfl (by decide) (law_case_1 C0 hK hnw h1 h2 h3 a C M hR K _ _ _ hP hD hS hl)
      by_cases sw2 : w = (2 : Int32)
      · exact lv_tabK (tgt := 200) (k := (2 : Int32)) hx hb dL_law_32 sw2 (by decide) (by decide) rfl (by decide) (law_case_2 C0 hK hnw h1 h2 h3 a C M hR K _ _ _ hP hD hS hl)
      by_cases sw3 : w = (3 : Int32)
      · exact lv_tabK (tgt := 213) (k := (3 : Int32)) hx hb dL_law_32 sw3 (by decide) (by decide) rfl (by decide) (law_case_3 C0 hK hnw h1 h2 h3 a C M hR K _ _ _ hP hD hS hl)
      by_cases sw4 : w = (4 : Int32)
      · exact lv_tabK (tgt := 236) (k := (4 : Int32)) hx hb dL_law_32 sw4 (by decide) (by decide) rfl (by decide) (law_case_4 C0 hK hnw h1 h2 h3 a C M hR K _ _ _ hP hD hS hl)
      by_cases sw5 : w = (5 : Int32)
      · exact lv_tabK (tgt := 269) (k := (5 : Int32)) hx hb dL_law_32 sw5 (by decide) (by decide) rfl (by decide) (law_case_5 C0 hK hnw h1 h2 h3 a C M hR K _ _ _ hP hD hS hl)
      by_cases sw6 : w = (6 : Int32)
      · exact lv_tabK (tgt := 302) (k := (6 : Int32)) hx hb dL_law_32 sw6 (by decide) (by decide) rfl (by decide) (law_case_6 C0 hK hnw h1 h2 h3 a C M hR K _ _ _ hP hD hS hl)
      by_cases sw7 : w = (7 : Int32)
      · exact lv_tabK (tgt := 325) (k := (7 : Int32)) hx hb dL_law_32 sw7 (by decide) (by decide) rfl (by decide) (law_case_7 C0 hK hnw h1 h2 h3 a C M hR K _ _ _ hP hD hS hl)
      by_cases sw8 : w = (8 : Int32)
      · exact lv_tabK (tgt := 358) (k := (8 : Int32)) hx hb dL_law_32 sw8 (by decide) (by decide) rfl (by decide) (law_case_8 C0 hK hnw h1 h2 h3 a C M hR K _ _ _ hP hD hS hl)
      by_cases sw9 : w = (9 : Int32)
      · exact lv_tabK (tgt := 391) (k := (9 : Int32)) hx hb dL_law_32 sw9 (by decide) (by decide) rfl (by decide) (law_case_9 C0 hK hnw h1 h2 h3 a C M hR K _ _ _ hP hD hS hl)
      by_cases sw10 : w = (10 : Int32)
      · exact lv_tabK (tgt := 424) (k := (10 : Int32)) hx hb dL_law_32 sw10 (by decide) (by decide) rfl (by decide) (law_case_10 C0 hK hnw h1 h2 h3 a C M hR K _ _ _ hP hD hS hl)
      by_cases sw11 : w = (11 : Int32)
      · exact lv_tabK (tgt := 447) (k := (11 : Int32)) hx hb dL_law_32 sw11 (by decide) (by decide) rfl (by decide) (law_case_11 C0 hK hnw h1 h2 h3 a C M hR K _ _ _ hP hD hS hl)
      by_cases sw12 : w = (12 : Int32)
      · exact lv_tabK (tgt := 480) (k := (12 : Int32)) hx hb dL_law_32 sw12 (by decide) (by decide) rfl (by decide) (law_case_12 C0 hK hnw h1 h2 h3 a C M hR K _ _ _ hP hD hS hl)
      by_cases sw13 : w = (13 : Int32)
      · exact lv_tabK (tgt := 513) (k := (13 : Int32)) hx hb dL_law_32 sw13 (by decide) (by decide) rfl (by decide) (law_case_13 C0 hK hnw h1 h2 h3 a C M hR K _ _ _ hP hD hS hl)
      by_cases sw14 : w = (14 : Int32)
      · exact lv_tabK (tgt := 556) (k := (14 : Int32)) hx hb dL_law_32 sw14 (by decide) (by decide) rfl (by decide) (law_case_14 C0 hK hnw h1 h2 h3 a C M hR K _ _ _ hP hD hS hl)
      by_cases sw15 : w = (15 : Int32)
      · exact lv_tabK (tgt := 579) (k := (15 : Int32)) hx hb dL_law_32 sw15 (by decide) (by decide) rfl (by decide) (law_case_15 C0 hK hnw h1 h2 h3 a C M hR K _ _ _ hP hD hS hl)
      by_cases sw16 : w = (16 : Int32)
      · exact lv_tabK (tgt := 622) (k := (16 : Int32)) hx hb dL_law_32 sw16 (by decide) (by decide) rfl (by decide) (law_case_16 C0 hK hnw h1 h2 h3 a C M hR K _ _ _ hP hD hS hl)
      by_cases sw17 : w = (17 : Int32)
      · exact lv_tabK (tgt := 645) (k := (17 : Int32)) hx hb dL_law_32 sw17 (by decide) (by decide) rfl (by decide) (law_case_17 C0 hK hnw h1 h2 h3 a C M hR K _ _ _ hP hD hS hl)
      by_cases sw18 : w = (18 : Int32)
      · exact lv_tabK (tgt := 668) (k := (18 : Int32)) hx hb dL_law_32 sw18 (by decide) (by decide) rfl (by decide) (law_case_18 C0 hK hnw h1 h2 h3 a C M hR K _ _ _ hP hD hS hl)
      by_cases sw19 : w = (19 : Int32)
      · exact lv_tabK (tgt := 711) (k := (19 : Int32)) hx hb dL_law_32 sw19 (by decide) (by decide) rfl (by decide) (law_case_19 C0 hK hnw h1 h2 h3 a C M hR K _ _ _ hP hD hS hl)
      by_cases sw20 : w = (20 : Int32)
      · exact lv_tabK (tgt := 744) (k := (20 : Int32)) hx hb dL_law_32 sw20 (by decide) (by decide) rfl (by decide) (law_case_20 C0 hK hnw h1 h2 h3 a C M hR K _ _ _ hP hD hS hl)
      by_cases sw21 : w = (21 : Int32)
      · exact lv_tabK (tgt := 777) (k := (21 : Int32)) hx hb dL_law_32 sw21 (by decide) (by decide) rfl (by decide) (law_case_21 C0 hK hnw h1 h2 h3 a C M hR K _ _ _ hP hD hS hl)
      by_cases sw22 : w = (22 : Int32)
      · exact lv_tabK (tgt := 820) (k := (22 : Int32)) hx hb dL_law_32 sw22 (by decide) (by decide) rfl (by decide) (law_case_22 C0 hK hnw h1 h2 h3 a C M hR K _ _ _ hP hD hS hl)
      by_cases sw23 : w = (23 : Int32)
      · exact lv_tabK (tgt := 853) (k := (23 : Int32)) hx hb dL_law_32 sw23 (by decide) (by decide) rfl (by decide) (law_case_23 C0 hK hnw h1 h2 h3 a C M hR K _ _ _ hP hD hS hl)
      by_cases sw24 : w = (24 : Int32)
      · exact lv_tabK (tgt := 896) (k := (24 : Int32)) hx hb dL_law_32 sw24 (by decide) (by decide) rfl (by decide) (law_case_24 C0 hK hnw h1 h2 h3 a C M hR K _ _ _ hP hD hS hl)
      by_cases sw25 : w = (25 : Int32)
      · exact lv_tabK (tgt := 909) (k := (25 : Int32)) hx hb dL_law_32 sw25 (by decide) (by decide) rfl (by decide) (law_case_25 C0 hK hnw h1 h2 h3 a C M hR K _ _ _ hP hD hS hl)
      by_cases sw26 : w = (26 : Int32)
      · exact lv_tabK (tgt := 922) (k := (26 : Int32)) hx hb dL_law_32 sw26 (by decide) (by decide) rfl (by decide) (law_case_26 C0 hK hnw h1 h2 h3 a C M hR K _ _ _ hP hD hS hl)
      by_cases sw27 : w = (27 : Int32)
      · exact lv_tabK (tgt := 945) (k := (27 : Int32)) hx hb dL_law_32 sw27 (by decide) (by decide) rfl (by decide) (law_case_27 C0 hK hnw h1 h2 h3 a C M hR K _ _ _ hP hD hS hl)
      by_cases sw28 : w = (28 : Int32)
      · exact lv_tabK (tgt := 968) (k := (28 : Int32)) hx hb dL_law_32 sw28 (by decide) (by decide) rfl (by decide) (law_case_28 C0 hK hnw h1 h2 h3 a C M hR K _ _ _ hP hD hS hl)
      refine lv_tableOut (tgt := 991) hx hb dL_law_32 (by have z0 := lv_neT (k := (0 : Int32)) (a := 0) sw0 rfl; have z1 := lv_neT (k := (1 : Int32)) (a := 1) sw1 rfl; have z2 := lv_neT (k := (2 : Int32)) (a := 2) sw2 rfl; have z3 := lv_neT (k := (3 : Int32)) (a := 3) sw3 rfl; have z4 := lv_neT (k := (4 : Int32)) (a := 4) sw4 rfl; have z5 := lv_neT (k := (5 : Int32)) (a := 5) sw5 rfl; have z6 := lv_neT (k := (6 : Int32)) (a := 6) sw6 rfl; have z7 := lv_neT (k := (7 : Int32)) (a := 7) sw7 rfl; have z8 := lv_neT (k := (8 : Int32)) (a := 8) sw8 rfl; have z9 := lv_neT (k := (9 : Int32)) (a := 9) sw9 rfl; have z10 := lv_neT (k := (10 : Int32)) (a := 10) sw10 rfl; have z11 := lv_neT (k := (11 : Int32)) (a := 11) sw11 rfl; have z12 := lv_neT (k := (12 : Int32)) (a := 12) sw12 rfl; have z13 := lv_neT (k := (13 : Int32)) (a := 13) sw13 rfl; have z14 := lv_neT (k := (14 : Int32)) (a := 14) sw14 rfl; have z15 := lv_neT (k := (15 : Int32)) (a := 15) sw15 rfl; have z16 := lv_neT (k := (16 : Int32)) (a := 16) sw16 rfl; have z17 := lv_neT (k := (17 : Int32)) (a := 17) sw17 rfl; have z18 := lv_neT (k := (18 : Int32)) (a := 18) sw18 rfl; have z19 := lv_neT (k := (19 : Int32)) (a := 19) sw19 rfl; have z20 := lv_neT (k := (20 : Int32)) (a := 20) sw20 rfl; have z21 := lv_neT (k := (21 : Int32)) (a := 21) sw21 rfl; have z22 := lv_neT (k := (22 : Int32)) (a := 22) sw22 rfl; have z23 := lv_neT (k := (23 : Int32)) (a := 23) sw23 rfl; have z24 := lv_neT (k := (24 : Int32)) (a := 24) sw24 rfl; have z25 := lv_neT (k := (25 : Int32)) (a := 25) sw25 rfl; have z26 := lv_neT (k := (26 : Int32)) (a := 26) sw26 rfl; have z27 := lv_neT (k := (27 : Int32)) (a := 27) sw27 rfl; have z28 := lv_neT (k := (28 : Int32)) (a := 28) sw28 rfl; omega) (by decide) ?_
      exact K a C M _ _ _ hR hP hD hS hl
theorem rel0 : Rel C0 (sf Z0 4 (-1 : Int32)) := by
  refine ⟨0, 0, 0, 0, ⟨by decide, ⟨rfl, rfl⟩, ⟨rfl, rfl⟩, ⟨rfl, rfl⟩, ⟨rfl, rfl⟩, rfl, fun f h => by omega, fun f h => by omega, fun f h => by omega, fun f h => by omega⟩, ⟨fun f h => by omega, fun k h => ⟨rfl, 0, by omega, rfl⟩, rfl, rfl, 0, by omega, rfl⟩, ⟨rfl, Or.inl rfl⟩, ⟨rfl, Or.inl rfl⟩, ⟨0, by omega, rfl, rfl, fun k h => by omega⟩, ⟨rfl, 0, by omega, rfl, rfl, fun k h => by omega⟩⟩
theorem arrK {s : State} {args : Array Value} {ty : FieldType} (h : (Cond.arrayClass ty).before args s = true) (hty : ∀ cA : ClassId, s.vm.findClass ("[" ++ ty.toString) = some cA → va_RA s cA ty) : ∃ cA : ClassId, ArrOfT s cA ty ∧ va_RA s cA ty := by
  obtain ⟨cA, kA, comp, h1, h2, h3⟩ := Cond.arrayClass_spec h
  exact ⟨cA, fun n z => ⟨fun k h => (by cases h), kA, h2, comp, h3⟩, hty cA h1⟩
set_option maxHeartbeats 4000000 in
set_option maxRecDepth 100000 in
/-- THE LAW, from its entry -/
theorem whole_start {p : Program} {e : Env} {s : State} {m : MethodId} {below : List Frame} {meth : Method} {c : Code} (l : Launch) (hflags : l.flags = flags0) {b L : Nat} {xs : Nat → Int32} (hL : L ≤ 2048) (C0_ : lw_At p s m meth c b L xs) : W p l e room_1 s m #[Value.ref b] below meth c s.heap [] 0 0 (lw_Z below #[Value.ref b] s) (entryFrame m ([Value.ref b] : List Value).toArray 4) := by
  obtain ⟨hx, hb, hr, hml, hown, hts, hX, hbl, hlocks, hgv⟩ := id C0_
  have hA : ∀ q : Nat, s.heap.size ≤ q → (fun q : Nat => s.heap.size ≤ q) q := fun _ h => h
  have hG : ∀ w ∈ GW, w.before #[Value.ref b] s = true := fun w h => hts w (GW_sub w h)
  have hnw : nwA s := ⟨va_Nw.of rfl (hts (Cond.methodLinkNest RX5 98 yX6_has "SevenBlows") (List.mem_of_getElem? (i := 399) (by decide +kernel))), va_Nw.of rfl (hts (Cond.methodLinkNest RX5 129 yX6_slot "SevenBlows") (List.mem_of_getElem? (i := 414) (by decide +kernel))), va_Nw.of rfl (hts (Cond.methodLinkNest RX2 77 yX6_has "SevenBlows") (List.mem_of_getElem? (i := 462) (by decide +kernel))), va_Nw.of rfl (hts (Cond.methodLinkNest RX3 46 yX6_has "SevenBlows") (List.mem_of_getElem? (i := 580) (by decide +kernel))), va_Nw.of rfl (hts (Cond.methodLinkNest RX3 56 yX6_slot "SevenBlows") (List.mem_of_getElem? (i := 581) (by decide +kernel))), va_Nw.of rfl (hts (Cond.methodLinkNest RX0 48 yX6_slot "SevenBlows") (List.mem_of_getElem? (i := 616) (by decide +kernel)))⟩
  obtain ⟨cI, hI1, hI2⟩ := arrK (ty := .int) (hG _ g_101) (fun _ h => h)
  obtain ⟨cZ, hZ1, hZ2⟩ := arrK (ty := .boolean) (hG _ g_596) (fun _ h => h)
  obtain ⟨c0, i0, hKn0⟩ := u_known (C := RX0) (T := TX0) (N := 2) (n := 2) hG inG0 (hG _ g_216)
  obtain ⟨c1, i1, hKn1⟩ := u_known (C := RX1) (T := TX1) (N := 3) (n := 3) hG inG1 (hG _ g_193)
  obtain ⟨c2, i2, hKn2⟩ := u_known (C := RX2) (T := TX2) (N := 18) (n := 18) hG inG2 (hG _ g_103)
  obtain ⟨c3, i3, hKn3⟩ := u_known (C := RX3) (T := TX3) (N := 4) (n := 4) hG inG3 (hG _ g_203)
  obtain ⟨c4, i4, hKn4⟩ := u_known (C := RX4) (T := TX4) (N := 7) (n := 7) hG inG4 (hG _ g_168)
  obtain ⟨c5, i5, hKn5⟩ := u_known (C := RX5) (T := TX5) (N := 6) (n := 6) hG inG5 (hG _ g_88)
  obtain ⟨c6, i6, hKn6⟩ := u_known (C := RX6) (T := TX6) (N := 10) (n := 10) hG inG6 (hG _ g_80)
  obtain ⟨c7, i7, hKn7⟩ := u_known (C := RX7) (T := TX7) (N := 32) (n := 32) hG inG7 (hG _ g_559)
  obtain ⟨D, hKc⟩ : ∃ D : va_G, ∀ (k : Nat) (q : vw_C), vwCl[k]? = some q → u_Kn s q.1 q.2.1 q.2.2 (D.1 k) (D.2 k) := by
    refine ⟨(fun k => if k = 0 then c0 else if k = 1 then c1 else if k = 2 then c2 else if k = 3 then c3 else if k = 4 then c4 else if k = 5 then c5 else if k = 6 then c6 else c7, fun k => if k = 0 then i0 else if k = 1 then i1 else if k = 2 then i2 else if k = 3 then i3 else if k = 4 then i4 else if k = 5 then i5 else if k = 6 then i6 else i7), ?_⟩
    intro k q hq
    match k, hq with
    | 0, hq => cases hq; exact hKn0
    | 1, hq => cases hq; exact hKn1
    | 2, hq => cases hq; exact hKn2
    | 3, hq => cases hq; exact hKn3
    | 4, hq => cases hq; exact hKn4
    | 5, hq => cases hq; exact hKn5
    | 6, hq => cases hq; exact hKn6
    | 7, hq => cases hq; exact hKn7
    | k + 8, hq => simp [vwCl] at hq
  have hK : va_K D vwCl (TY cI cZ) s := ⟨hKc, fun k q h => by
    match k, h with
    | 0, h => cases h; exact ⟨hI1, hI2⟩
    | 1, h => cases h; exact ⟨hZ1, hZ2⟩
    | k + 2, h => simp at h⟩
  have hS : va_S (fun q : Nat => s.heap.size ≤ q) s.heap s.heap [] := va_S.rf
  have hP : va_P D vwCl [] s.heap := P_nil
  have hD : va_D (fun q : Nat => s.heap.size ≤ q) [] := ⟨fun i j p q h => by simp at h, fun k q h => by simp at h⟩
  have hl := lv_entry ([.ref b]) (n := 4) (Nat.le_of_ble_eq_true rfl)
  rw [lg_entry_eq]
  generalize (lg_sl ([.ref b]) ++ List.replicate (4 - (lg_sl ([.ref b])).length) Slot.unset).toArray = ls at hl ⊢
  have hl : lv_has ls 4 [(0, .ref b)] := hl
  refine va_new (ci := 6) (fs := [.null, .null, .null, .null, .null, .null, .null, .null, .null, .null]) (C := RX6) (T := TX6) (N := 10) hx hb hG inG6 tyX6 tyX6_ok hown (hG _ g_79) (hG _ g_80) (hG _ g_70) hK hP hD hS hA rfl (fun j hj => by rcases (show j = 0 ∨ j = 1 ∨ j = 2 ∨ j = 3 ∨ j = 4 ∨ j = 5 ∨ j = 6 ∨ j = 7 ∨ j = 8 ∨ j = 9 by omega) with rfl | rfl | rfl | rfl | rfl | rfl | rfl | rfl | rfl | rfl <;> rfl) (Nat.le_of_ble_eq_true rfl) (Nat.le_of_ble_eq_true rfl) dL_law_0 (fun q0 H hP hD hS => ?_)
  refine lv_dup hx hb dL_law_3 rfl ?_
  have hP : va_P D vwCl (([] : va_W) ++ ([(q0, .inr (6, [.null, .null, .null, .null, .null, .null, .null, .null, .null, .null]))] : va_W)) H := hP
  have hD : va_D (fun q : Nat => s.heap.size ≤ q) (([] : va_W) ++ ([(q0, .inr (6, [.null, .null, .null, .null, .null, .null, .null, .null, .null, .null]))] : va_W)) := hD
  have hPc := lastP hP
  have hDc := lastD hD
  have hFc := lastF hD hS hA
  refine va_callv (va_runI (As := []) (rest := [.ref q0]) ⟨hx, hb, hml, hown, hG⟩ (c_X6_init l D cI cZ q0 H.size) (cwI 0 hG (gC g_83) rfl rfl rfl (hG _ g_70) (hG _ g_81) (hG _ g_82) rfl (by decide +kernel) ⟨(Nat.le_of_ble_eq_true rfl), (Nat.le_of_ble_eq_true rfl)⟩) ⟨pre_blind, fun U hU hW => ⟨rfl, pre_of hPc hK hDc hnw hU hW⟩⟩ rfl rfl hl.1 rfl (lv_room (Nat.le_of_ble_eq_true rfl)) dL_law_4 ⟨(Nat.le_of_ble_eq_true rfl), (Nat.le_of_ble_eq_true rfl)⟩) hS (fun q _ h => hFc q h) hFc (fun a t H locs ht hvm hw hB hz1 hk1 hS => ?_)
  subst hw
  obtain ⟨hP1, hD1⟩ := hB
  rw [ht] at hP1
  obtain ⟨hP, hD⟩ := join1 hP hD hk1 hFc hP1 hD1
  clear hPc hDc hFc hk1 hP1 hD1 ht hvm hz1
  have hP : va_P D vwCl (cW cI a C0) H := hP
  have hD : va_D (fun q : Nat => s.heap.size ≤ q) (cW cI a C0) := hD
  refine lv_astore_n (lv' := [(1, .ref (a 0 0)), (0, .ref b)]) hx hb dL_law_7 rfl hl (by decide) rfl (fun ls hl => ?_)
  refine va_new (ci := 7) (fs := [.null, .null, .null, .int 0, .int 0, .int 0, .int 0, .null, .null, .int 0, .null, .int 0, .null, .int 0, .null, .null, .int 0, .int 0, .int 0, .int 0, .int 0, .null, .int 0, .null, .int 0, .null, .int 0, .null, .null, .null, .null, .null]) (C := RX7) (T := TX7) (N := 32) hx hb hG inG7 tyX7 tyX7_ok hown (hG _ g_558) (hG _ g_559) (hG _ g_77) hK hP hD hS hA rfl (fun j hj => by rcases (show j = 0 ∨ j = 1 ∨ j = 2 ∨ j = 3 ∨ j = 4 ∨ j = 5 ∨ j = 6 ∨ j = 7 ∨ j = 8 ∨ j = 9 ∨ j = 10 ∨ j = 11 ∨ j = 12 ∨ j = 13 ∨ j = 14 ∨ j = 15 ∨ j = 16 ∨ j = 17 ∨ j = 18 ∨ j = 19 ∨ j = 20 ∨ j = 21 ∨ j = 22 ∨ j = 23 ∨ j = 24 ∨ j = 25 ∨ j = 26 ∨ j = 27 ∨ j = 28 ∨ j = 29 ∨ j = 30 ∨ j = 31 by omega) with rfl | rfl | rfl | rfl | rfl | rfl | rfl | rfl | rfl | rfl | rfl | rfl | rfl | rfl | rfl | rfl | rfl | rfl | rfl | rfl | rfl | rfl | rfl | rfl | rfl | rfl | rfl | rfl | rfl | rfl | rfl | rfl <;> rfl) (Nat.le_of_ble_eq_true rfl) (Nat.le_of_ble_eq_true rfl) dL_law_8 (fun q1 H hP hD hS => ?_)
  refine lv_dup hx hb dL_law_11 rfl ?_
  have hP : va_P D vwCl ((cW cI a C0) ++ ([(q1, .inr (7, [.null, .null, .null, .int 0, .int 0, .int 0, .int 0, .null, .null, .int 0, .null, .int 0, .null, .int 0, .null, .null, .int 0, .int 0, .int 0, .int 0, .int 0, .null, .int 0, .null, .int 0, .null, .int 0, .null, .null, .null, .null, .null]))] : va_W)) H := hP
  have hD : va_D (fun q : Nat => s.heap.size ≤ q) ((cW cI a C0) ++ ([(q1, .inr (7, [.null, .null, .null, .int 0, .int 0, .int 0, .int 0, .null, .null, .int 0, .null, .int 0, .null, .int 0, .null, .null, .int 0, .int 0, .int 0, .int 0, .int 0, .null, .int 0, .null, .int 0, .null, .int 0, .null, .null, .null, .null, .null]))] : va_W)) := hD
  have hPc := lastP hP
  have hDc := lastD hD
  have hFc := lastF hD hS hA
  refine va_callv (va_runI (As := []) (rest := [.ref q1]) ⟨hx, hb, hml, hown, hG⟩ (c_X7_init l D cI cZ q1 H.size) (cwI 0 hG (gC g_562) rfl rfl rfl (hG _ g_77) (hG _ g_560) (hG _ g_561) rfl (by decide +kernel) ⟨(Nat.le_of_ble_eq_true rfl), (Nat.le_of_ble_eq_true rfl)⟩) ⟨pre_blind, fun U hU hW => ⟨rfl, pre_of hPc hK hDc hnw hU hW⟩⟩ rfl rfl hl.1 rfl (lv_room (Nat.le_of_ble_eq_true rfl)) dL_law_12 ⟨(Nat.le_of_ble_eq_true rfl), (Nat.le_of_ble_eq_true rfl)⟩) hS (fun q _ h => hFc q h) hFc (fun am t H locs ht hvm hw hB hz1 hk1 hS => ?_)
  subst hw
  obtain ⟨hP1, hD1⟩ := hB
  rw [ht] at hP1
  obtain ⟨hP, hD⟩ := join1 hP hD hk1 hFc hP1 hD1
  clear hPc hDc hFc hk1 hP1 hD1 ht hvm hz1
  refine lv_astore_n (lv' := [(2, .ref (am 0)), (1, .ref (a 0 0)), (0, .ref b)]) hx hb dL_law_15 rfl hl (by decide) rfl (fun ls hl => ?_)
  refine lv_iconst (v := (0 : Int32)) hx hb dL_law_16 (by decide) ?_
  refine lv_istore_n (lv' := [(3, .int 0), (2, .ref (am 0)), (1, .ref (a 0 0)), (0, .ref b)]) hx hb dL_law_17 rfl hl (by decide) rfl (fun ls hl => ?_)
  refine W.widen (k := 72) (n := 1324) (Nat.le_of_ble_eq_true rfl) (Nat.le_of_ble_eq_true rfl) ?_
  exact law_loop hL C0_ hK hnw (L + 4) 0 0 (by omega) (by omega) rfl a C0 (sf Z0 4 (-1 : Int32)) _ _ _ rel0 hP hD hS (lv_sub hl [3, 2, 1, 0] rfl)

