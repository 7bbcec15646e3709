theorem at_WLS_1_0 {cI : ClassId} {a a1 a2 : Nat → Nat} {x : HC} {x1 : HC} {x2 : HC} : (kW cI a x ++ (kL cI a1 x1 ++ (kS cI a2 x2)))[3]? = some (a1 0, .inr (2, [.int (x1 0 0), .int (x1 0 1), .int (x1 0 2), .int (x1 0 3), .int (x1 0 4), .int (x1 0 5), .ref (a1 1), .ref (a1 2), .ref (a1 3), .ref (a1 4), .ref (a1 5), .ref (a1 6), .ref (a1 7), .ref (a1 8), .ref (a1 9), .ref (a1 10), .ref (a1 11), .ref (a1 12)])) := rfl
theorem at_WLS_2_0 {cI : ClassId} {a a1 a2 : Nat → Nat} {x : HC} {x1 : HC} {x2 : HC} : (kW cI a x ++ (kL cI a1 x1 ++ (kS cI a2 x2)))[16]? = some (a2 0, .inr (4, [.ref (a2 1), .ref (a2 2), .ref (a2 3), .ref (a2 4), .int (x2 0 4), .int (x2 0 5), .int (x2 0 6)])) := rfl
theorem at_WLS_2_4 {cI : ClassId} {a a1 a2 : Nat → Nat} {x : HC} {x1 : HC} {x2 : HC} : (kW cI a x ++ (kL cI a1 x1 ++ (kS cI a2 x2)))[20]? = some (a2 4, .inl (cI, 30, .inl (x2 4))) := rfl
theorem at_WLS_0_0 {cI : ClassId} {a a1 a2 : Nat → Nat} {x : HC} {x1 : HC} {x2 : HC} : (kW cI a x ++ (kL cI a1 x1 ++ (kS cI a2 x2)))[0]? = some (a 0, .inr (0, [.ref (a 1), .ref (a 2)])) := rfl
theorem at_WLS_0_1 {cI : ClassId} {a a1 a2 : Nat → Nat} {x : HC} {x1 : HC} {x2 : HC} : (kW cI a x ++ (kL cI a1 x1 ++ (kS cI a2 x2)))[1]? = some (a 1, .inl (cI, 5, .inl (x 1))) := rfl
theorem sub_WLS_L_1 {cI : ClassId} {a a1 a2 : Nat → Nat} {x : HC} {x1 : HC} {x2 : HC} : [3, 4, 5, 6, 7, 8, 9, 10, 11, 12, 13, 14, 15].map (fun i => (kW cI a x ++ (kL cI a1 x1 ++ (kS cI a2 x2)))[i]?) = (kL cI a1 x1).map some := rfl
theorem put_WLS_L_1_ {cI : ClassId} {a a1 a2 : Nat → Nat} {x : HC} {x1 : HC} {x2 : HC}  : putL (kW cI a x ++ (kL cI a1 x1 ++ (kS cI a2 x2))) [3, 4, 5, 6, 7, 8, 9, 10, 11, 12, 13, 14, 15] (kL cI a1 x1) = (kW cI a x ++ (kL cI a1 x1 ++ (kS cI a2 x2))) := rfl
theorem at_WLS_1_2 {cI : ClassId} {a a1 a2 : Nat → Nat} {x : HC} {x1 : HC} {x2 : HC} : (kW cI a x ++ (kL cI a1 x1 ++ (kS cI a2 x2)))[5]? = some (a1 2, .inl (cI, 5, .inl (x1 2))) := rfl
theorem at_WLS_0_2 {cI : ClassId} {a a1 a2 : Nat → Nat} {x : HC} {x1 : HC} {x2 : HC} : (kW cI a x ++ (kL cI a1 x1 ++ (kS cI a2 x2)))[2]? = some (a 2, .inl (cI, 6, .inl (x 2))) := rfl
theorem sa_WLS_0_2 {cI : ClassId} {a a1 a2 : Nat → Nat} {x : HC} {x1 : HC} {x2 : HC} {i v : Int32} : (kW cI a x ++ (kL cI a1 x1 ++ (kS cI a2 x2))).set 2 (a 2, .inl (cI, 6, .inl (upd (x 2) i.toNatClampNeg v))) = (kW cI a (sa x 2 i v) ++ (kL cI a1 x1 ++ (kS cI a2 x2))) := rfl
theorem sa_WLS_0_1 {cI : ClassId} {a a1 a2 : Nat → Nat} {x : HC} {x1 : HC} {x2 : HC} {i v : Int32} : (kW cI a x ++ (kL cI a1 x1 ++ (kS cI a2 x2))).set 1 (a 1, .inl (cI, 5, .inl (upd (x 1) i.toNatClampNeg v))) = (kW cI a (sa x 1 i v) ++ (kL cI a1 x1 ++ (kS cI a2 x2))) := rfl
theorem at_WLS_2_1 {cI : ClassId} {a a1 a2 : Nat → Nat} {x : HC} {x1 : HC} {x2 : HC} : (kW cI a x ++ (kL cI a1 x1 ++ (kS cI a2 x2)))[17]? = some (a2 1, .inl (cI, 5, .inl (x2 1))) := rfl
theorem at_B_0_0 {cI : ClassId} {a : Nat → Nat} {x : HC} : (kB cI a x)[0]? = some (a 0, .inr (1, [.ref (a 1), .ref (a 2), .int (x 0 2)])) := rfl
theorem at_B_0_1 {cI : ClassId} {a : Nat → Nat} {x : HC} : (kB cI a x)[1]? = some (a 1, .inl (cI, 15, .inl (x 1))) := rfl
theorem sa_B_0_1 {cI : ClassId} {a : Nat → Nat} {x : HC} {i v : Int32} : (kB cI a x).set 1 (a 1, .inl (cI, 15, .inl (upd (x 1) i.toNatClampNeg v))) = (kB cI a (sa x 1 i v)) := rfl
theorem at_B_0_2 {cI : ClassId} {a : Nat → Nat} {x : HC} : (kB cI a x)[2]? = some (a 2, .inl (cI, 15, .inl (x 2))) := rfl
theorem sa_B_0_2 {cI : ClassId} {a : Nat → Nat} {x : HC} {i v : Int32} : (kB cI a x).set 2 (a 2, .inl (cI, 15, .inl (upd (x 2) i.toNatClampNeg v))) = (kB cI a (sa x 2 i v)) := rfl
theorem sf_B_0_2 {cI : ClassId} {a : Nat → Nat} {x : HC} {v : Int32} : (kB cI a x).set 0 (a 0, .inr (1, ([.ref (a 1), .ref (a 2), .int (x 0 2)] : List Value).set 2 (.int v))) = (kB cI a (sf x 2 v)) := rfl
theorem at_BS_0_0 {cI : ClassId} {a a1 : Nat → Nat} {x : HC} {x1 : HC} : (kB cI a x ++ (kS cI a1 x1))[0]? = some (a 0, .inr (1, [.ref (a 1), .ref (a 2), .int (x 0 2)])) := rfl
theorem at_BS_1_0 {cI : ClassId} {a a1 : Nat → Nat} {x : HC} {x1 : HC} : (kB cI a x ++ (kS cI a1 x1))[3]? = some (a1 0, .inr (4, [.ref (a1 1), .ref (a1 2), .ref (a1 3), .ref (a1 4), .int (x1 0 4), .int (x1 0 5), .int (x1 0 6)])) := rfl
theorem at_BS_0_1 {cI : ClassId} {a a1 : Nat → Nat} {x : HC} {x1 : HC} : (kB cI a x ++ (kS cI a1 x1))[1]? = some (a 1, .inl (cI, 15, .inl (x 1))) := rfl
theorem at_BS_1_4 {cI : ClassId} {a a1 : Nat → Nat} {x : HC} {x1 : HC} : (kB cI a x ++ (kS cI a1 x1))[7]? = some (a1 4, .inl (cI, 30, .inl (x1 4))) := rfl
theorem at_BS_0_2 {cI : ClassId} {a a1 : Nat → Nat} {x : HC} {x1 : HC} : (kB cI a x ++ (kS cI a1 x1))[2]? = some (a 2, .inl (cI, 15, .inl (x 2))) := rfl
theorem at_PLS_0_0 {cI : ClassId} {a a1 a2 : Nat → Nat} {x : HC} {x1 : HC} {x2 : HC} : (kP cI a x ++ (kL cI a1 x1 ++ (kS cI a2 x2)))[0]? = some (a 0, .inr (3, [.ref (a 1), .ref (a 2), .int (x 0 2), .int (x 0 3)])) := rfl
theorem at_PLS_2_0 {cI : ClassId} {a a1 a2 : Nat → Nat} {x : HC} {x1 : HC} {x2 : HC} : (kP cI a x ++ (kL cI a1 x1 ++ (kS cI a2 x2)))[16]? = some (a2 0, .inr (4, [.ref (a2 1), .ref (a2 2), .ref (a2 3), .ref (a2 4), .int (x2 0 4), .int (x2 0 5), .int (x2 0 6)])) := rfl
theorem at_PLS_2_2 {cI : ClassId} {a a1 a2 : Nat → Nat} {x : HC} {x1 : HC} {x2 : HC} : (kP cI a x ++ (kL cI a1 x1 ++ (kS cI a2 x2)))[18]? = some (a2 2, .inl (cI, 5, .inl (x2 2))) := rfl
theorem sub_PLS_L_1 {cI : ClassId} {a a1 a2 : Nat → Nat} {x : HC} {x1 : HC} {x2 : HC} : [3, 4, 5, 6, 7, 8, 9, 10, 11, 12, 13, 14, 15].map (fun i => (kP cI a x ++ (kL cI a1 x1 ++ (kS cI a2 x2)))[i]?) = (kL cI a1 x1).map some := rfl
theorem put_PLS_L_1_ {cI : ClassId} {a a1 a2 : Nat → Nat} {x : HC} {x1 : HC} {x2 : HC}  : putL (kP cI a x ++ (kL cI a1 x1 ++ (kS cI a2 x2))) [3, 4, 5, 6, 7, 8, 9, 10, 11, 12, 13, 14, 15] (kL cI a1 x1) = (kP cI a x ++ (kL cI a1 x1 ++ (kS cI a2 x2))) := rfl
theorem at_PLS_1_0 {cI : ClassId} {a a1 a2 : Nat → Nat} {x : HC} {x1 : HC} {x2 : HC} : (kP cI a x ++ (kL cI a1 x1 ++ (kS cI a2 x2)))[3]? = some (a1 0, .inr (2, [.int (x1 0 0), .int (x1 0 1), .int (x1 0 2), .int (x1 0 3), .int (x1 0 4), .int (x1 0 5), .ref (a1 1), .ref (a1 2), .ref (a1 3), .ref (a1 4), .ref (a1 5), .ref (a1 6), .ref (a1 7), .ref (a1 8), .ref (a1 9), .ref (a1 10), .ref (a1 11), .ref (a1 12)])) := rfl
theorem at_PLS_1_5 {cI : ClassId} {a a1 a2 : Nat → Nat} {x : HC} {x1 : HC} {x2 : HC} : (kP cI a x ++ (kL cI a1 x1 ++ (kS cI a2 x2)))[8]? = some (a1 5, .inl (cI, 6, .inl (x1 5))) := rfl
theorem at_PLS_2_4 {cI : ClassId} {a a1 a2 : Nat → Nat} {x : HC} {x1 : HC} {x2 : HC} : (kP cI a x ++ (kL cI a1 x1 ++ (kS cI a2 x2)))[20]? = some (a2 4, .inl (cI, 30, .inl (x2 4))) := rfl
theorem at_PLS_2_3 {cI : ClassId} {a a1 a2 : Nat → Nat} {x : HC} {x1 : HC} {x2 : HC} : (kP cI a x ++ (kL cI a1 x1 ++ (kS cI a2 x2)))[19]? = some (a2 3, .inl (cI, 5, .inl (x2 3))) := rfl
theorem at_PLS_0_1 {cI : ClassId} {a a1 a2 : Nat → Nat} {x : HC} {x1 : HC} {x2 : HC} : (kP cI a x ++ (kL cI a1 x1 ++ (kS cI a2 x2)))[1]? = some (a 1, .inl (cI, 6, .inl (x 1))) := rfl
theorem sa_PLS_0_1 {cI : ClassId} {a a1 a2 : Nat → Nat} {x : HC} {x1 : HC} {x2 : HC} {i v : Int32} : (kP cI a x ++ (kL cI a1 x1 ++ (kS cI a2 x2))).set 1 (a 1, .inl (cI, 6, .inl (upd (x 1) i.toNatClampNeg v))) = (kP cI a (sa x 1 i v) ++ (kL cI a1 x1 ++ (kS cI a2 x2))) := rfl
theorem at_PLS_0_2 {cI : ClassId} {a a1 a2 : Nat → Nat} {x : HC} {x1 : HC} {x2 : HC} : (kP cI a x ++ (kL cI a1 x1 ++ (kS cI a2 x2)))[2]? = some (a 2, .inl (cI, 6, .inl (x 2))) := rfl
theorem sa_PLS_0_2 {cI : ClassId} {a a1 a2 : Nat → Nat} {x : HC} {x1 : HC} {x2 : HC} {i v : Int32} : (kP cI a x ++ (kL cI a1 x1 ++ (kS cI a2 x2))).set 2 (a 2, .inl (cI, 6, .inl (upd (x 2) i.toNatClampNeg v))) = (kP cI a (sa x 2 i v) ++ (kL cI a1 x1 ++ (kS cI a2 x2))) := rfl
theorem sf_PLS_0_2 {cI : ClassId} {a a1 a2 : Nat → Nat} {x : HC} {x1 : HC} {x2 : HC} {v : Int32} : (kP cI a x ++ (kL cI a1 x1 ++ (kS cI a2 x2))).set 0 (a 0, .inr (3, ([.ref (a 1), .ref (a 2), .int (x 0 2), .int (x 0 3)] : List Value).set 2 (.int v))) = (kP cI a (sf x 2 v) ++ (kL cI a1 x1 ++ (kS cI a2 x2))) := rfl
theorem sf_PLS_0_3 {cI : ClassId} {a a1 a2 : Nat → Nat} {x : HC} {x1 : HC} {x2 : HC} {v : Int32} : (kP cI a x ++ (kL cI a1 x1 ++ (kS cI a2 x2))).set 0 (a 0, .inr (3, ([.ref (a 1), .ref (a 2), .int (x 0 2), .int (x 0 3)] : List Value).set 3 (.int v))) = (kP cI a (sf x 3 v) ++ (kL cI a1 x1 ++ (kS cI a2 x2))) := rfl
theorem at_PL_0_0 {cI : ClassId} {a a1 : Nat → Nat} {x : HC} {x1 : HC} : (kP cI a x ++ (kL cI a1 x1))[0]? = some (a 0, .inr (3, [.ref (a 1), .ref (a 2), .int (x 0 2), .int (x 0 3)])) := rfl
theorem at_PL_1_0 {cI : ClassId} {a a1 : Nat → Nat} {x : HC} {x1 : HC} : (kP cI a x ++ (kL cI a1 x1))[3]? = some (a1 0, .inr (2, [.int (x1 0 0), .int (x1 0 1), .int (x1 0 2), .int (x1 0 3), .int (x1 0 4), .int (x1 0 5), .ref (a1 1), .ref (a1 2), .ref (a1 3), .ref (a1 4), .ref (a1 5), .ref (a1 6), .ref (a1 7), .ref (a1 8), .ref (a1 9), .ref (a1 10), .ref (a1 11), .ref (a1 12)])) := rfl
theorem at_PL_0_1 {cI : ClassId} {a a1 : Nat → Nat} {x : HC} {x1 : HC} : (kP cI a x ++ (kL cI a1 x1))[1]? = some (a 1, .inl (cI, 6, .inl (x 1))) := rfl
theorem at_PL_1_7 {cI : ClassId} {a a1 : Nat → Nat} {x : HC} {x1 : HC} : (kP cI a x ++ (kL cI a1 x1))[10]? = some (a1 7, .inl (cI, 6, .inl (x1 7))) := rfl
theorem at_SL_0_0 {cI : ClassId} {a a1 : Nat → Nat} {x : HC} {x1 : HC} : (kS cI a x ++ (kL cI a1 x1))[0]? = some (a 0, .inr (4, [.ref (a 1), .ref (a 2), .ref (a 3), .ref (a 4), .int (x 0 4), .int (x 0 5), .int (x 0 6)])) := rfl
theorem sf_SL_0_4 {cI : ClassId} {a a1 : Nat → Nat} {x : HC} {x1 : HC} {v : Int32} : (kS cI a x ++ (kL cI a1 x1)).set 0 (a 0, .inr (4, ([.ref (a 1), .ref (a 2), .ref (a 3), .ref (a 4), .int (x 0 4), .int (x 0 5), .int (x 0 6)] : List Value).set 4 (.int v))) = (kS cI a (sf x 4 v) ++ (kL cI a1 x1)) := rfl
theorem at_SL_1_0 {cI : ClassId} {a a1 : Nat → Nat} {x : HC} {x1 : HC} : (kS cI a x ++ (kL cI a1 x1))[5]? = some (a1 0, .inr (2, [.int (x1 0 0), .int (x1 0 1), .int (x1 0 2), .int (x1 0 3), .int (x1 0 4), .int (x1 0 5), .ref (a1 1), .ref (a1 2), .ref (a1 3), .ref (a1 4), .ref (a1 5), .ref (a1 6), .ref (a1 7), .ref (a1 8), .ref (a1 9), .ref (a1 10), .ref (a1 11), .ref (a1 12)])) := rfl
theorem at_SL_1_12 {cI : ClassId} {a a1 : Nat → Nat} {x : HC} {x1 : HC} : (kS cI a x ++ (kL cI a1 x1))[17]? = some (a1 12, .inl (cI, 30, .inl (x1 12))) := rfl
theorem at_SL_0_4 {cI : ClassId} {a a1 : Nat → Nat} {x : HC} {x1 : HC} : (kS cI a x ++ (kL cI a1 x1))[4]? = some (a 4, .inl (cI, 30, .inl (x 4))) := rfl
theorem sa_SL_0_4 {cI : ClassId} {a a1 : Nat → Nat} {x : HC} {x1 : HC} {i v : Int32} : (kS cI a x ++ (kL cI a1 x1)).set 4 (a 4, .inl (cI, 30, .inl (upd (x 4) i.toNatClampNeg v))) = (kS cI a (sa x 4 i v) ++ (kL cI a1 x1)) := rfl
theorem at_SL_1_3 {cI : ClassId} {a a1 : Nat → Nat} {x : HC} {x1 : HC} : (kS cI a x ++ (kL cI a1 x1))[8]? = some (a1 3, .inl (cI, 5, .inl (x1 3))) := rfl
theorem at_SL_0_1 {cI : ClassId} {a a1 : Nat → Nat} {x : HC} {x1 : HC} : (kS cI a x ++ (kL cI a1 x1))[1]? = some (a 1, .inl (cI, 5, .inl (x 1))) := rfl
theorem sa_SL_0_1 {cI : ClassId} {a a1 : Nat → Nat} {x : HC} {x1 : HC} {i v : Int32} : (kS cI a x ++ (kL cI a1 x1)).set 1 (a 1, .inl (cI, 5, .inl (upd (x 1) i.toNatClampNeg v))) = (kS cI a (sa x 1 i v) ++ (kL cI a1 x1)) := rfl
theorem at_SL_0_2 {cI : ClassId} {a a1 : Nat → Nat} {x : HC} {x1 : HC} : (kS cI a x ++ (kL cI a1 x1))[2]? = some (a 2, .inl (cI, 5, .inl (x 2))) := rfl
theorem sa_SL_0_2 {cI : ClassId} {a a1 : Nat → Nat} {x : HC} {x1 : HC} {i v : Int32} : (kS cI a x ++ (kL cI a1 x1)).set 2 (a 2, .inl (cI, 5, .inl (upd (x 2) i.toNatClampNeg v))) = (kS cI a (sa x 2 i v) ++ (kL cI a1 x1)) := rfl
theorem at_SL_0_3 {cI : ClassId} {a a1 : Nat → Nat} {x : HC} {x1 : HC} : (kS cI a x ++ (kL cI a1 x1))[3]? = some (a 3, .inl (cI, 5, .inl (x 3))) := rfl
theorem sa_SL_0_3 {cI : ClassId} {a a1 : Nat → Nat} {x : HC} {x1 : HC} {i v : Int32} : (kS cI a x ++ (kL cI a1 x1)).set 3 (a 3, .inl (cI, 5, .inl (upd (x 3) i.toNatClampNeg v))) = (kS cI a (sa x 3 i v) ++ (kL cI a1 x1)) := rfl
theorem at_SS_1_0 {cI : ClassId} {a a1 : Nat → Nat} {x : HC} {x1 : HC} : (kS cI a x ++ (kS cI a1 x1))[5]? = some (a1 0, .inr (4, [.ref (a1 1), .ref (a1 2), .ref (a1 3), .ref (a1 4), .int (x1 0 4), .int (x1 0 5), .int (x1 0 6)])) := rfl
theorem at_SS_0_0 {cI : ClassId} {a a1 : Nat → Nat} {x : HC} {x1 : HC} : (kS cI a x ++ (kS cI a1 x1))[0]? = some (a 0, .inr (4, [.ref (a 1), .ref (a 2), .ref (a 3), .ref (a 4), .int (x 0 4), .int (x 0 5), .int (x 0 6)])) := rfl
theorem sf_SS_0_4 {cI : ClassId} {a a1 : Nat → Nat} {x : HC} {x1 : HC} {v : Int32} : (kS cI a x ++ (kS cI a1 x1)).set 0 (a 0, .inr (4, ([.ref (a 1), .ref (a 2), .ref (a 3), .ref (a 4), .int (x 0 4), .int (x 0 5), .int (x 0 6)] : List Value).set 4 (.int v))) = (kS cI a (sf x 4 v) ++ (kS cI a1 x1)) := rfl
theorem sf_SS_0_5 {cI : ClassId} {a a1 : Nat → Nat} {x : HC} {x1 : HC} {v : Int32} : (kS cI a x ++ (kS cI a1 x1)).set 0 (a 0, .inr (4, ([.ref (a 1), .ref (a 2), .ref (a 3), .ref (a 4), .int (x 0 4), .int (x 0 5), .int (x 0 6)] : List Value).set 5 (.int v))) = (kS cI a (sf x 5 v) ++ (kS cI a1 x1)) := rfl
theorem at_SS_1_4 {cI : ClassId} {a a1 : Nat → Nat} {x : HC} {x1 : HC} : (kS cI a x ++ (kS cI a1 x1))[9]? = some (a1 4, .inl (cI, 30, .inl (x1 4))) := rfl
theorem at_SS_0_4 {cI : ClassId} {a a1 : Nat → Nat} {x : HC} {x1 : HC} : (kS cI a x ++ (kS cI a1 x1))[4]? = some (a 4, .inl (cI, 30, .inl (x 4))) := rfl
theorem sa_SS_0_4 {cI : ClassId} {a a1 : Nat → Nat} {x : HC} {x1 : HC} {i v : Int32} : (kS cI a x ++ (kS cI a1 x1)).set 4 (a 4, .inl (cI, 30, .inl (upd (x 4) i.toNatClampNeg v))) = (kS cI a (sa x 4 i v) ++ (kS cI a1 x1)) := rfl
theorem at_SS_1_1 {cI : ClassId} {a a1 : Nat → Nat} {x : HC} {x1 : HC} : (kS cI a x ++ (kS cI a1 x1))[6]? = some (a1 1, .inl (cI, 5, .inl (x1 1))) := rfl
theorem at_SS_0_1 {cI : ClassId} {a a1 : Nat → Nat} {x : HC} {x1 : HC} : (kS cI a x ++ (kS cI a1 x1))[1]? = some (a 1, .inl (cI, 5, .inl (x 1))) := rfl
theorem sa_SS_0_1 {cI : ClassId} {a a1 : Nat → Nat} {x : HC} {x1 : HC} {i v : Int32} : (kS cI a x ++ (kS cI a1 x1)).set 1 (a 1, .inl (cI, 5, .inl (upd (x 1) i.toNatClampNeg v))) = (kS cI a (sa x 1 i v) ++ (kS cI a1 x1)) := rfl
theorem at_SS_1_2 {cI : ClassId} {a a1 : Nat → Nat} {x : HC} {x1 : HC} : (kS cI a x ++ (kS cI a1 x1))[7]? = some (a1 2, .inl (cI, 5, .inl (x1 2))) := rfl
theorem at_SS_0_2 {cI : ClassId} {a a1 : Nat → Nat} {x : HC} {x1 : HC} : (kS cI a x ++ (kS cI a1 x1))[2]? = some (a 2, .inl (cI, 5, .inl (x 2))) := rfl
theorem sa_SS_0_2 {cI : ClassId} {a a1 : Nat → Nat} {x : HC} {x1 : HC} {i v : Int32} : (kS cI a x ++ (kS cI a1 x1)).set 2 (a 2, .inl (cI, 5, .inl (upd (x 2) i.toNatClampNeg v))) = (kS cI a (sa x 2 i v) ++ (kS cI a1 x1)) := rfl
theorem at_SS_1_3 {cI : ClassId} {a a1 : Nat → Nat} {x : HC} {x1 : HC} : (kS cI a x ++ (kS cI a1 x1))[8]? = some (a1 3, .inl (cI, 5, .inl (x1 3))) := rfl
theorem at_SS_0_3 {cI : ClassId} {a a1 : Nat → Nat} {x : HC} {x1 : HC} : (kS cI a x ++ (kS cI a1 x1))[3]? = some (a 3, .inl (cI, 5, .inl (x 3))) := rfl
theorem sa_SS_0_3 {cI : ClassId} {a a1 : Nat → Nat} {x : HC} {x1 : HC} {i v : Int32} : (kS cI a x ++ (kS cI a1 x1)).set 3 (a 3, .inl (cI, 5, .inl (upd (x 3) i.toNatClampNeg v))) = (kS cI a (sa x 3 i v) ++ (kS cI a1 x1)) := rfl
theorem at_S_0_0 {cI : ClassId} {a : Nat → Nat} {x : HC} : (kS cI a x)[0]? = some (a 0, .inr (4, [.ref (a 1), .ref (a 2), .ref (a 3), .ref (a 4), .int (x 0 4), .int (x 0 5), .int (x 0 6)])) := rfl
theorem sf_S_0_5 {cI : ClassId} {a : Nat → Nat} {x : HC} {v : Int32} : (kS cI a x).set 0 (a 0, .inr (4, ([.ref (a 1), .ref (a 2), .ref (a 3), .ref (a 4), .int (x 0 4), .int (x 0 5), .int (x 0 6)] : List Value).set 5 (.int v))) = (kS cI a (sf x 5 v)) := rfl
def f_X0_strongestRival_j60 (rc6 : Int32 → Int32 → Option (Int32)) (v2 : Int32) (v3 : Int32) : Option (Int32) := nm (v2 + (1 : Int32)) (fun (v4 : Int32) => rc6 v3 v4)
def f_X0_strongestRival_b6 (x : HC) (x1 : HC) (x2 : HC) (p1 : Int32) (p2 : Int32) (rc6 : Int32 → Int32 → Option (Int32)) (v1 : Int32) (v2 : Int32) : Option (Int32) := (if (x1 0 1) ≤ v2 then some v1 else (if v2 = p2 then f_X0_strongestRival_j60 rc6 v2 v1 else bd (f_X6_slot p1 v2) (fun (q5 : Int32) => (if inb q5 30 then (if inb v2 5 then bd (f_X2_readsAs x1 v2 (x 1 (Int32.toNatClampNeg v2))) (fun (q6 : Int32) => nm (if (x2 4 (Int32.toNatClampNeg q5)) < q6 then q6 else (x2 4 (Int32.toNatClampNeg q5))) (fun (v7 : Int32) => nm (if v1 < v7 then v7 else v1) (fun (v8 : Int32) => f_X0_strongestRival_j60 rc6 v2 v8))) else none) else none))))
def f_X0_strongestRival (x : HC) (x1 : HC) (x2 : HC) (p1 : Int32) (p2 : Int32) : Option (Int32) := lp (fun _ _ => none : Int32 → Int32 → Option (Int32)) (f_X0_strongestRival_b6 x x1 x2 p1 p2) FU (-1 : Int32) (0 : Int32)
abbrev RM_X0_strongestRival : Room := { frames := 2, cells := 0, slots := 0, locals := 43 }
set_option maxHeartbeats 4000000 in
set_option maxRecDepth 100000 in
theorem c_X0_strongestRival (l : Launch) (D : va_G) (cI cZ : ClassId) (a a1 a2 : Nat → Nat) (x : HC) (x1 : HC) (x2 : HC) (p1 : Int32) (p2 : Int32) (sz : Nat) {r : Int32} (hf : f_X0_strongestRival x x1 x2 p1 p2 = some r) : Met l yX0_strongestRival (wM yX0_strongestRival cX0_strongestRival 8 (some .int)) RM_X0_strongestRival (va_Pc [.ref (a 0), .ref (a1 0), .ref (a2 0), .int p1, .int p2] (pre D cI cZ (kW cI a x ++ (kL cI a1 x1 ++ (kS cI a2 x2))) sz)) (QI0 D (va_A (kW cI a x ++ (kL cI a1 x1 ++ (kS cI a2 x2))) sz) (kW cI a x ++ (kL cI a1 x1 ++ (kS cI a2 x2))) r) 0 0 (va_A (kW cI a x ++ (kL cI a1 x1 ++ (kS cI a2 x2))) sz) := by
  unfold f_X0_strongestRival at hf
  refine Met.ofW (cc := cX0_strongestRival) (maxL := 8) (ret := (some .int)) (by decide) rfl ?_
  intro p e s m args below meth c s₁ B hml hv
  obtain ⟨rfl, hsz, hP, hK, hD0, hnw⟩ := hv
  have hx := B.exec
  have hb := B.bytes
  have hr := B.returns
  have hts := atoms_spec (ws := wM yX0_strongestRival cX0_strongestRival 8 (some .int)) B.pre
  have hG : ∀ w ∈ GW, w.before (([.ref (a 0), .ref (a1 0), .ref (a2 0), .int p1, .int p2] : List Value).toArray) s = true := fun w h => hts w (List.mem_cons_of_mem _ h)
  have hown : s.vm.findClass RX0 = some m.cls := findClass_of_methodNamed B.named
  have hlocks := B.notSynchronized
  subst hsz
  have hD := hD0.self (sz := s.heap.size)
  generalize hAe : va_A (kW cI a x ++ (kL cI a1 x1 ++ (kS cI a2 x2))) s.heap.size = A at hD ⊢
  have hA : ∀ q : Nat, s.heap.size ≤ q → A q := fun q h => by rw [← hAe]; exact Or.inr h
  have hS : va_S A s.heap s.heap [] := va_S.rf
  have hl := lv_entry ([.ref (a 0), .ref (a1 0), .ref (a2 0), .int p1, .int p2]) (n := 8) (Nat.le_of_ble_eq_true rfl)
  rw [lg_entry_eq]
  generalize (lg_sl ([.ref (a 0), .ref (a1 0), .ref (a2 0), .int p1, .int p2]) ++ List.replicate (8 - (lg_sl ([.ref (a 0), .ref (a1 0), .ref (a2 0), .int p1, .int p2])).length) Slot.unset).toArray = ls at hl ⊢
  have hl : lv_has ls 8 [(0, .ref (a 0)), (1, .ref (a1 0)), (2, .ref (a2 0)), (3, .int p1), (4, .int p2)] := hl
  show W p l e RM_X0_strongestRival s m (([.ref (a 0), .ref (a1 0), .ref (a2 0), .int p1, .int p2] : List Value).toArray) below meth c s.heap [] 0 0 (MQ below (QI0 D A (kW cI a x ++ (kL cI a1 x1 ++ (kS cI a2 x2))) r) (([.ref (a 0), .ref (a1 0), .ref (a2 0), .int p1, .int p2] : List Value).toArray) s 0 0 A) (F0 m 0 ls [])
  refine lv_iconst (v := (-1 : Int32)) hx hb dX0_strongestRival_0 (by decide) ?_
  refine lv_istore (lv' := [(5, .int (-1 : Int32)), (0, .ref (a 0)), (1, .ref (a1 0)), (2, .ref (a2 0)), (3, .int p1), (4, .int p2)]) hx hb dX0_strongestRival_1 hl (by decide) rfl (fun ls hl => ?_)
  refine lv_iconst (v := (0 : Int32)) hx hb dX0_strongestRival_3 (by decide) ?_
  refine lv_istore (lv' := [(6, .int (0 : Int32)), (5, .int (-1 : Int32)), (0, .ref (a 0)), (1, .ref (a1 0)), (2, .ref (a2 0)), (3, .int p1), (4, .int p2)]) hx hb dX0_strongestRival_4 hl (by decide) rfl (fun ls hl => ?_)
  have L6 : ∀ (n : Nat) (v1 : Int32) (v2 : Int32) (H : Heap) (locs : List Loc) (ls : Array Slot), va_P D vwCl (kW cI a x ++ (kL cI a1 x1 ++ (kS cI a2 x2))) H → va_D A (kW cI a x ++ (kL cI a1 x1 ++ (kS cI a2 x2))) → va_S A s.heap H locs → lv_has ls 8 [(0, .ref (a 0)), (1, .ref (a1 0)), (2, .ref (a2 0)), (3, .int p1), (4, .int p2), (5, .int v1), (6, .int v2)] → lp (fun _ _ => none : Int32 → Int32 → Option (Int32)) (f_X0_strongestRival_b6 x x1 x2 p1 p2) n v1 v2 = some r → W p l e RM_X0_strongestRival s m (([.ref (a 0), .ref (a1 0), .ref (a2 0), .int p1, .int p2] : List Value).toArray) below meth c H locs 0 0 (MQ below (QI0 D A (kW cI a x ++ (kL cI a1 x1 ++ (kS cI a2 x2))) r) (([.ref (a 0), .ref (a1 0), .ref (a2 0), .int p1, .int p2] : List Value).toArray) s 0 0 A) (F0 m 6 ls []) := by
    intro n
    induction n with
    | zero => intro v1 v2 H locs ls _ _ _ _ hf; cases (show (none : Option (Int32)) = some r from hf)
    | succ n ih6 =>
      intro v1 v2 H locs ls hP hD hS hl hf
      have hf : (f_X0_strongestRival_b6 x x1 x2 p1 p2) (lp (fun _ _ => none : Int32 → Int32 → Option (Int32)) (f_X0_strongestRival_b6 x x1 x2 p1 p2) n) v1 v2 = some r := hf
      generalize lp (fun _ _ => none : Int32 → Int32 → Option (Int32)) (f_X0_strongestRival_b6 x x1 x2 p1 p2) n = rc6 at ih6 hf
      unfold f_X0_strongestRival_b6 at hf
      refine lv_iload hx hb dX0_strongestRival_6 (lv_at hl 6 rfl) ?_
      refine lv_aload_n hx hb dX0_strongestRival_8 rfl (lv_at hl 1 rfl) ?_
      refine va_get (D := D) (ci := 2) (v := .int (x1 0 1)) (C := RX2) (T := TX2) (N := 18) hx hb hG inG2 hown hK hP 3 at_WLS_1_0 rfl 1 (by decide) (hG _ g_113) (fun _ h9 => h9) rfl dX0_strongestRival_9 ?_
      refine lv_icmp_ge (tgt := 66) hx hb dX0_strongestRival_12 (by decide) (fun cc12 => ?_) (fun cc12 => ?_)
      · have hf := if_t cc12 hf
        refine lv_iload hx hb dX0_strongestRival_66 (lv_at hl 5 rfl) ?_
        exact W.iret (v := v1) hx hb hr (fun t ht hW => ⟨⟨v1, (), rfl, Option.some.inj hf, by rw [ht]; exact hP, hD⟩, hS.F ht⟩) hS.2.2 dX0_strongestRival_68
      · have hf := if_f cc12 hf
        refine lv_iload hx hb dX0_strongestRival_15 (lv_at hl 6 rfl) ?_
        refine lv_iload hx hb dX0_strongestRival_17 (lv_at hl 4 rfl) ?_
        have J60 : ∀ (v3 : Int32) (H : Heap) (locs : List Loc) (ls : Array Slot), va_P D vwCl (kW cI a x ++ (kL cI a1 x1 ++ (kS cI a2 x2))) H → va_D A (kW cI a x ++ (kL cI a1 x1 ++ (kS cI a2 x2))) → va_S A s.heap H locs → lv_has ls 8 [(0, .ref (a 0)), (1, .ref (a1 0)), (2, .ref (a2 0)), (3, .int p1), (4, .int p2), (5, .int v3), (6, .int v2)] → f_X0_strongestRival_j60 rc6 v2 v3 = some r → W p l e RM_X0_strongestRival s m (([.ref (a 0), .ref (a1 0), .ref (a2 0), .int p1, .int p2] : List Value).toArray) below meth c H locs 0 0 (MQ below (QI0 D A (kW cI a x ++ (kL cI a1 x1 ++ (kS cI a2 x2))) r) (([.ref (a 0), .ref (a1 0), .ref (a2 0), .int p1, .int p2] : List Value).toArray) s 0 0 A) (F0 m 60 ls []) := by
          intro v3 H locs ls hP hD hS hl hf
          unfold f_X0_strongestRival_j60 at hf
          obtain ⟨v4, ev4⟩ : ∃ y : Int32, y = (v2 + (1 : Int32)) := ⟨_, rfl⟩
          have hf := nm_x ev4 hf
          refine lv_iinc (v := v4) (lv' := [(6, .int v4), (0, .ref (a 0)), (1, .ref (a1 0)), (2, .ref (a2 0)), (3, .int p1), (4, .int p2), (5, .int v3)]) hx hb dX0_strongestRival_60 hl (k := 6) rfl (by rw [ev4]; rfl) (by decide) rfl (fun ls hl => ?_)
          refine lv_goto (tgt := 6) hx hb dX0_strongestRival_63 (by decide) ?_
          exact ih6 v3 v4 _ _ _ hP hD hS (lv_sub hl [1, 2, 3, 4, 5, 6, 0] rfl) hf
        refine lv_icmp_eq (tgt := 60) hx hb dX0_strongestRival_19 (by decide) (fun cc19 => ?_) (fun cc19 => ?_)
        · have hf := if_t cc19 hf
          exact J60 v1 _ _ _ hP hD hS (lv_sub hl [0, 1, 2, 3, 4, 5, 6] rfl) hf
        · have hf := if_f cc19 hf
          refine lv_aload_n hx hb dX0_strongestRival_22 rfl (lv_at hl 2 rfl) ?_
          refine va_get (D := D) (ci := 4) (v := .ref (a2 4)) (C := RX4) (T := TX4) (N := 7) hx hb hG inG4 hown hK hP 16 at_WLS_2_0 rfl 3 (by decide) (hG _ g_185) (fun _ h9 => h9) rfl dX0_strongestRival_23 ?_
          refine lv_iload_n hx hb dX0_strongestRival_26 rfl (lv_at hl 3 rfl) ?_
          refine lv_iload hx hb dX0_strongestRival_27 (lv_at hl 6 rfl) ?_
          obtain ⟨q5, hq5, hf⟩ := bd_x hf
          have hFc := va_free (wc := []) hD hS hA [] rfl
          refine va_calli (va_runSN (As := [.int p1, .int v2]) (rest := [.ref (a2 4)]) ⟨hx, hb, hml, hown, hG⟩ (c_X6_slot l D cI cZ p1 v2 H.size hq5) ⟨va_cnB 2 hG (gC g_297) rfl rfl rfl hnw.2.2.2.2.2 (hG _ g_70) (by decide +kernel) ⟨Nat.le_of_ble_eq_true rfl, Nat.le_of_ble_eq_true rfl⟩, hG _ g_296, trivial⟩ ⟨pre_blind, fun U hU hW => ⟨rfl, pre_of P_nil hK D_nil hnw hU hW⟩⟩ rfl rfl hl.1 rfl (lv_room (Nat.le_of_ble_eq_true rfl)) dX0_strongestRival_29 ⟨Nat.le_of_ble_eq_true rfl, Nat.le_of_ble_eq_true rfl⟩) hS (fun q _ h => hFc q h) hFc (fun v u t H locs ht hvm hw hB hz1 hk1 hS => ?_)
          have hw := hw.symm; subst hw
          obtain ⟨hP1, hD1⟩ := hB
          rw [ht] at hP1
          obtain ⟨hP, hD⟩ := back hP hD [] rfl rfl hk1 hFc hP1 hD1
          obtain ⟨hb32, hf⟩ := gd hf
          refine va_iald (cA := cI) (n := 30) (f := x2 4) hx hb hK hP 20 0 at_WLS_2_4 rfl (inb_in hb32) dX0_strongestRival_32 ?_
          refine lv_aload_n hx hb dX0_strongestRival_33 rfl (lv_at hl 1 rfl) ?_
          refine lv_iload hx hb dX0_strongestRival_34 (lv_at hl 6 rfl) ?_
          refine lv_aload_n hx hb dX0_strongestRival_36 rfl (lv_at hl 0 rfl) ?_
          refine va_get (D := D) (ci := 0) (v := .ref (a 1)) (C := RX0) (T := TX0) (N := 2) hx hb hG inG0 hown hK hP 0 at_WLS_0_0 rfl 0 (by decide) (hG _ g_221) (fun _ h9 => h9) rfl dX0_strongestRival_37 ?_
          refine lv_iload hx hb dX0_strongestRival_40 (lv_at hl 6 rfl) ?_
          obtain ⟨hb42, hf⟩ := gd hf
          refine va_iald (cA := cI) (n := 5) (f := x 1) hx hb hK hP 1 0 at_WLS_0_1 rfl (inb_in hb42) dX0_strongestRival_42 ?_
          obtain ⟨q6, hq6, hf⟩ := bd_x hf
          have hPc := subP [3, 4, 5, 6, 7, 8, 9, 10, 11, 12, 13, 14, 15] sub_WLS_L_1 hP
          have hDc := va_D.sub hD [3, 4, 5, 6, 7, 8, 9, 10, 11, 12, 13, 14, 15] rfl sub_WLS_L_1
          have hFc := va_free hD hS hA [3, 4, 5, 6, 7, 8, 9, 10, 11, 12, 13, 14, 15] sub_WLS_L_1
          refine va_calli (va_runV (As := [.int v2, .int (x 1 (Int32.toNatClampNeg v2))]) (rest := [.int (x2 4 (Int32.toNatClampNeg q5))]) ⟨hx, hb, hml, hown, hG⟩ (c_X2_readsAs l D cI cZ a1 x1 v2 (x 1 (Int32.toNatClampNeg v2)) H.size hq6) (cwV 2 hG (gV g_481 g_326 g_327 g_72 g_328) rfl rfl rfl (by decide +kernel) ⟨Nat.le_of_ble_eq_true rfl, Nat.le_of_ble_eq_true rfl⟩) ⟨pre_blind, va_recv hK hPc (ci := 2) (q0 := 0) rfl rfl, fun U hU hW => ⟨rfl, pre_of hPc hK hDc hnw hU hW⟩⟩ rfl rfl hl.1 rfl (lv_room (Nat.le_of_ble_eq_true rfl)) dX0_strongestRival_43 ⟨Nat.le_of_ble_eq_true rfl, Nat.le_of_ble_eq_true rfl⟩) hS (fun q _ h => hFc q h) hFc (fun v u t H locs ht hvm hw hB hz1 hk1 hS => ?_)
          have hw := hw.symm; subst hw
          obtain ⟨hP1, hD1⟩ := hB
          rw [ht] at hP1
          obtain ⟨hP, hD⟩ := back hP hD [3, 4, 5, 6, 7, 8, 9, 10, 11, 12, 13, 14, 15] sub_WLS_L_1 rfl hk1 hFc hP1 hD1
          have hP := wP put_WLS_L_1_ hP
          have hD := wD put_WLS_L_1_ hD
          refine va_mmax hx hb (hml.trans hl.1.symm) hown (hG _ g_482) (hG _ g_374) (hG _ g_78) (hG _ g_375) (Nat.le_of_ble_eq_true rfl) (Nat.le_of_ble_eq_true rfl) (Nat.zero_le _) (Nat.zero_le _) dX0_strongestRival_46 ?_
          refine lv_topi (fun v7 ev7 => ?_)
          have hf := nm_x ev7 hf
          refine lv_istore (lv' := [(7, .int v7), (0, .ref (a 0)), (1, .ref (a1 0)), (2, .ref (a2 0)), (3, .int p1), (4, .int p2), (5, .int v1), (6, .int v2)]) hx hb dX0_strongestRival_49 hl (by decide) rfl (fun ls hl => ?_)
          refine lv_iload hx hb dX0_strongestRival_51 (lv_at hl 6 rfl) ?_
          refine lv_iload hx hb dX0_strongestRival_53 (lv_at hl 0 rfl) ?_
          refine va_mmax hx hb (hml.trans hl.1.symm) hown (hG _ g_482) (hG _ g_374) (hG _ g_78) (hG _ g_375) (Nat.le_of_ble_eq_true rfl) (Nat.le_of_ble_eq_true rfl) (Nat.zero_le _) (Nat.zero_le _) dX0_strongestRival_55 ?_
          refine lv_topi (fun v8 ev8 => ?_)
          have hf := nm_x ev8 hf
          refine lv_istore (lv' := [(5, .int v8), (7, .int v7), (0, .ref (a 0)), (1, .ref (a1 0)), (2, .ref (a2 0)), (3, .int p1), (4, .int p2), (6, .int v2)]) hx hb dX0_strongestRival_58 hl (by decide) rfl (fun ls hl => ?_)
          exact J60 v8 _ _ _ hP hD hS (lv_sub hl [2, 3, 4, 5, 6, 0, 7] rfl) hf
  exact L6 FU (-1 : Int32) (0 : Int32) _ _ _ hP hD hS (lv_sub hl [2, 3, 4, 5, 6, 1, 0] rfl) hf
def f_X0_gain_j53 (rc15 : Int32 → Int32 → Option (Int32)) (v3 : Int32) (v5 : Int32) : Option (Int32) := nm (v3 + (1 : Int32)) (fun (v6 : Int32) => rc15 v5 v6)
def f_X0_gain_b15 (x : HC) (x1 : HC) (x2 : HC) (p1 : Int32) (q1 : Int32) (rc15 : Int32 → Int32 → Option (Int32)) (v2 : Int32) (v3 : Int32) : Option (Int32) := (if (x1 0 0) ≤ v3 then (if inb p1 5 then some (((10 : Int32) * v2) - ((3 : Int32) * ((if (0 : Int32) < (q1 - (x1 2 (Int32.toNatClampNeg p1))) then (q1 - (x1 2 (Int32.toNatClampNeg p1))) else (0 : Int32)) / (10 : Int32)))) else none) else bd (f_X6_slot v3 p1) (fun (q4 : Int32) => (if inb q4 30 then (if inb v3 6 then (if (if (x2 4 (Int32.toNatClampNeg q4)) < q1 then q1 else (x2 4 (Int32.toNatClampNeg q4))) ≤ (x 2 (Int32.toNatClampNeg v3)) then f_X0_gain_j53 rc15 v3 v2 else nm (v2 + (1 : Int32)) (fun (v7 : Int32) => f_X0_gain_j53 rc15 v3 v7)) else none) else none)))
def f_X0_gain (x : HC) (x1 : HC) (x2 : HC) (p1 : Int32) (p2 : Int32) : Option (Int32) := bd (f_X2_readsAs x1 p1 p2) (fun (q1 : Int32) => lp (fun _ _ => none : Int32 → Int32 → Option (Int32)) (f_X0_gain_b15 x x1 x2 p1 q1) FU (0 : Int32) (0 : Int32))
abbrev RM_X0_gain : Room := { frames := 2, cells := 0, slots := 0, locals := 43 }
set_option maxHeartbeats 4000000 in
set_option maxRecDepth 100000 in
theorem c_X0_gain (l : Launch) (D : va_G) (cI cZ : ClassId) (a a1 a2 : Nat → Nat) (x : HC) (x1 : HC) (x2 : HC) (p1 : Int32) (p2 : Int32) (sz : Nat) {r : Int32} (hf : f_X0_gain x x1 x2 p1 p2 = some r) : Met l yX0_gain (wM yX0_gain cX0_gain 8 (some .int)) RM_X0_gain (va_Pc [.ref (a 0), .ref (a1 0), .ref (a2 0), .int p1, .int p2] (pre D cI cZ (kW cI a x ++ (kL cI a1 x1 ++ (kS cI a2 x2))) sz)) (QI0 D (va_A (kW cI a x ++ (kL cI a1 x1 ++ (kS cI a2 x2))) sz) (kW cI a x ++ (kL cI a1 x1 ++ (kS cI a2 x2))) r) 0 0 (va_A (kW cI a x ++ (kL cI a1 x1 ++ (kS cI a2 x2))) sz) := by
  unfold f_X0_gain at hf
  refine Met.ofW (cc := cX0_gain) (maxL := 8) (ret := (some .int)) (by decide) rfl ?_
  intro p e s m args below meth c s₁ B hml hv
  obtain ⟨rfl, hsz, hP, hK, hD0, hnw⟩ := hv
  have hx := B.exec
  have hb := B.bytes
  have hr := B.returns
  have hts := atoms_spec (ws := wM yX0_gain cX0_gain 8 (some .int)) B.pre
  have hG : ∀ w ∈ GW, w.before (([.ref (a 0), .ref (a1 0), .ref (a2 0), .int p1, .int p2] : List Value).toArray) s = true := fun w h => hts w (List.mem_cons_of_mem _ h)
  have hown : s.vm.findClass RX0 = some m.cls := findClass_of_methodNamed B.named
  have hlocks := B.notSynchronized
  subst hsz
  have hD := hD0.self (sz := s.heap.size)
  generalize hAe : va_A (kW cI a x ++ (kL cI a1 x1 ++ (kS cI a2 x2))) s.heap.size = A at hD ⊢
  have hA : ∀ q : Nat, s.heap.size ≤ q → A q := fun q h => by rw [← hAe]; exact Or.inr h
  have hS : va_S A s.heap s.heap [] := va_S.rf
  have hl := lv_entry ([.ref (a 0), .ref (a1 0), .ref (a2 0), .int p1, .int p2]) (n := 8) (Nat.le_of_ble_eq_true rfl)
  rw [lg_entry_eq]
  generalize (lg_sl ([.ref (a 0), .ref (a1 0), .ref (a2 0), .int p1, .int p2]) ++ List.replicate (8 - (lg_sl ([.ref (a 0), .ref (a1 0), .ref (a2 0), .int p1, .int p2])).length) Slot.unset).toArray = ls at hl ⊢
  have hl : lv_has ls 8 [(0, .ref (a 0)), (1, .ref (a1 0)), (2, .ref (a2 0)), (3, .int p1), (4, .int p2)] := hl
  show W p l e RM_X0_gain s m (([.ref (a 0), .ref (a1 0), .ref (a2 0), .int p1, .int p2] : List Value).toArray) below meth c s.heap [] 0 0 (MQ below (QI0 D A (kW cI a x ++ (kL cI a1 x1 ++ (kS cI a2 x2))) r) (([.ref (a 0), .ref (a1 0), .ref (a2 0), .int p1, .int p2] : List Value).toArray) s 0 0 A) (F0 m 0 ls [])
  refine lv_aload_n hx hb dX0_gain_0 rfl (lv_at hl 1 rfl) ?_
  refine lv_iload_n hx hb dX0_gain_1 rfl (lv_at hl 3 rfl) ?_
  refine lv_iload hx hb dX0_gain_2 (lv_at hl 4 rfl) ?_
  obtain ⟨q1, hq1, hf⟩ := bd_x hf
  have hPc := subP [3, 4, 5, 6, 7, 8, 9, 10, 11, 12, 13, 14, 15] sub_WLS_L_1 hP
  have hDc := va_D.sub hD [3, 4, 5, 6, 7, 8, 9, 10, 11, 12, 13, 14, 15] rfl sub_WLS_L_1
  have hFc := va_free hD hS hA [3, 4, 5, 6, 7, 8, 9, 10, 11, 12, 13, 14, 15] sub_WLS_L_1
  refine va_calli (va_runV (As := [.int p1, .int p2]) (rest := []) ⟨hx, hb, hml, hown, hG⟩ (c_X2_readsAs l D cI cZ a1 x1 p1 p2 s.heap.size hq1) (cwV 2 hG (gV g_481 g_326 g_327 g_72 g_328) rfl rfl rfl (by decide +kernel) ⟨Nat.le_of_ble_eq_true rfl, Nat.le_of_ble_eq_true rfl⟩) ⟨pre_blind, va_recv hK hPc (ci := 2) (q0 := 0) rfl rfl, fun U hU hW => ⟨rfl, pre_of hPc hK hDc hnw hU hW⟩⟩ rfl rfl hl.1 rfl (lv_room (Nat.le_of_ble_eq_true rfl)) dX0_gain_4 ⟨Nat.le_of_ble_eq_true rfl, Nat.le_of_ble_eq_true rfl⟩) hS (fun q _ h => hFc q h) hFc (fun v u t H locs ht hvm hw hB hz1 hk1 hS => ?_)
  have hw := hw.symm; subst hw
  obtain ⟨hP1, hD1⟩ := hB
  rw [ht] at hP1
  obtain ⟨hP, hD⟩ := back hP hD [3, 4, 5, 6, 7, 8, 9, 10, 11, 12, 13, 14, 15] sub_WLS_L_1 rfl hk1 hFc hP1 hD1
  have hP := wP put_WLS_L_1_ hP
  have hD := wD put_WLS_L_1_ hD
  refine lv_istore (lv' := [(5, .int q1), (0, .ref (a 0)), (1, .ref (a1 0)), (2, .ref (a2 0)), (3, .int p1), (4, .int p2)]) hx hb dX0_gain_7 hl (by decide) rfl (fun ls hl => ?_)
  refine lv_iconst (v := (0 : Int32)) hx hb dX0_gain_9 (by decide) ?_
  refine lv_istore (lv' := [(6, .int (0 : Int32)), (5, .int q1), (0, .ref (a 0)), (1, .ref (a1 0)), (2, .ref (a2 0)), (3, .int p1), (4, .int p2)]) hx hb dX0_gain_10 hl (by decide) rfl (fun ls hl => ?_)
  refine lv_iconst (v := (0 : Int32)) hx hb dX0_gain_12 (by decide) ?_
  refine lv_istore (lv' := [(7, .int (0 : Int32)), (6, .int (0 : Int32)), (5, .int q1), (0, .ref (a 0)), (1, .ref (a1 0)), (2, .ref (a2 0)), (3, .int p1), (4, .int p2)]) hx hb dX0_gain_13 hl (by decide) rfl (fun ls hl => ?_)
  have L15 : ∀ (n : Nat) (v2 : Int32) (v3 : Int32) (H : Heap) (locs : List Loc) (ls : Array Slot), va_P D vwCl (kW cI a x ++ (kL cI a1 x1 ++ (kS cI a2 x2))) H → va_D A (kW cI a x ++ (kL cI a1 x1 ++ (kS cI a2 x2))) → va_S A s.heap H locs → lv_has ls 8 [(0, .ref (a 0)), (1, .ref (a1 0)), (2, .ref (a2 0)), (3, .int p1), (5, .int q1), (6, .int v2), (7, .int v3)] → lp (fun _ _ => none : Int32 → Int32 → Option (Int32)) (f_X0_gain_b15 x x1 x2 p1 q1) n v2 v3 = some r → W p l e RM_X0_gain s m (([.ref (a 0), .ref (a1 0), .ref (a2 0), .int p1, .int p2] : List Value).toArray) below meth c H locs 0 0 (MQ below (QI0 D A (kW cI a x ++ (kL cI a1 x1 ++ (kS cI a2 x2))) r) (([.ref (a 0), .ref (a1 0), .ref (a2 0), .int p1, .int p2] : List Value).toArray) s 0 0 A) (F0 m 15 ls []) := by
    intro n
    induction n with
    | zero => intro v2 v3 H locs ls _ _ _ _ hf; cases (show (none : Option (Int32)) = some r from hf)
    | succ n ih15 =>
      intro v2 v3 H locs ls hP hD hS hl hf
      have hf : (f_X0_gain_b15 x x1 x2 p1 q1) (lp (fun _ _ => none : Int32 → Int32 → Option (Int32)) (f_X0_gain_b15 x x1 x2 p1 q1) n) v2 v3 = some r := hf
      generalize lp (fun _ _ => none : Int32 → Int32 → Option (Int32)) (f_X0_gain_b15 x x1 x2 p1 q1) n = rc15 at ih15 hf
      unfold f_X0_gain_b15 at hf
      refine lv_iload hx hb dX0_gain_15 (lv_at hl 6 rfl) ?_
      refine lv_aload_n hx hb dX0_gain_17 rfl (lv_at hl 1 rfl) ?_
      refine va_get (D := D) (ci := 2) (v := .int (x1 0 0)) (C := RX2) (T := TX2) (N := 18) hx hb hG inG2 hown hK hP 3 at_WLS_1_0 rfl 0 (by decide) (hG _ g_110) (fun _ h9 => h9) rfl dX0_gain_18 ?_
      refine lv_icmp_ge (tgt := 59) hx hb dX0_gain_21 (by decide) (fun cc21 => ?_) (fun cc21 => ?_)
      · have hf := if_t cc21 hf
        refine lv_bipush (v := (10 : Int32)) hx hb dX0_gain_59 (by decide) ?_
        refine lv_iload hx hb dX0_gain_61 (lv_at hl 5 rfl) ?_
        refine lv_imul hx hb dX0_gain_63 ?_
        refine lv_iconst (v := (3 : Int32)) hx hb dX0_gain_64 (by decide) ?_
        refine lv_iconst (v := (0 : Int32)) hx hb dX0_gain_65 (by decide) ?_
        refine lv_iload hx hb dX0_gain_66 (lv_at hl 4 rfl) ?_
        refine lv_aload_n hx hb dX0_gain_68 rfl (lv_at hl 1 rfl) ?_
        refine va_get (D := D) (ci := 2) (v := .ref (a1 2)) (C := RX2) (T := TX2) (N := 18) hx hb hG inG2 hown hK hP 3 at_WLS_1_0 rfl 7 (by decide) (hG _ g_132) (fun _ h9 => h9) rfl dX0_gain_69 ?_
        refine lv_iload_n hx hb dX0_gain_72 rfl (lv_at hl 3 rfl) ?_
        obtain ⟨hb73, hf⟩ := gd hf
        refine va_iald (cA := cI) (n := 5) (f := x1 2) hx hb hK hP 5 0 at_WLS_1_2 rfl (inb_in hb73) dX0_gain_73 ?_
        refine lv_isub hx hb dX0_gain_74 ?_
        refine va_mmax hx hb (hml.trans hl.1.symm) hown (hG _ g_482) (hG _ g_374) (hG _ g_78) (hG _ g_375) (Nat.le_of_ble_eq_true rfl) (Nat.le_of_ble_eq_true rfl) (Nat.zero_le _) (Nat.zero_le _) dX0_gain_75 ?_
        refine lv_bipush (v := (10 : Int32)) hx hb dX0_gain_78 (by decide) ?_
        refine lv_idiv hx hb dX0_gain_80 (by decide) ?_
        refine lv_imul hx hb dX0_gain_81 ?_
        refine lv_isub hx hb dX0_gain_82 ?_
        exact W.iret (v := (((10 : Int32) * v2) - ((3 : Int32) * ((if (0 : Int32) < (q1 - (x1 2 (Int32.toNatClampNeg p1))) then (q1 - (x1 2 (Int32.toNatClampNeg p1))) else (0 : Int32)) / (10 : Int32))))) hx hb hr (fun t ht hW => ⟨⟨(((10 : Int32) * v2) - ((3 : Int32) * ((if (0 : Int32) < (q1 - (x1 2 (Int32.toNatClampNeg p1))) then (q1 - (x1 2 (Int32.toNatClampNeg p1))) else (0 : Int32)) / (10 : Int32)))), (), rfl, Option.some.inj hf, by rw [ht]; exact hP, hD⟩, hS.F ht⟩) hS.2.2 dX0_gain_83
      · have hf := if_f cc21 hf
        refine lv_aload_n hx hb dX0_gain_24 rfl (lv_at hl 2 rfl) ?_
        refine va_get (D := D) (ci := 4) (v := .ref (a2 4)) (C := RX4) (T := TX4) (N := 7) hx hb hG inG4 hown hK hP 16 at_WLS_2_0 rfl 3 (by decide) (hG _ g_185) (fun _ h9 => h9) rfl dX0_gain_25 ?_
        refine lv_iload hx hb dX0_gain_28 (lv_at hl 6 rfl) ?_
        refine lv_iload_n hx hb dX0_gain_30 rfl (lv_at hl 3 rfl) ?_
        obtain ⟨q4, hq4, hf⟩ := bd_x hf
        have hFc := va_free (wc := []) hD hS hA [] rfl
        refine va_calli (va_runSN (As := [.int v3, .int p1]) (rest := [.ref (a2 4)]) ⟨hx, hb, hml, hown, hG⟩ (c_X6_slot l D cI cZ v3 p1 H.size hq4) ⟨va_cnB 2 hG (gC g_297) rfl rfl rfl hnw.2.2.2.2.2 (hG _ g_70) (by decide +kernel) ⟨Nat.le_of_ble_eq_true rfl, Nat.le_of_ble_eq_true rfl⟩, hG _ g_296, trivial⟩ ⟨pre_blind, fun U hU hW => ⟨rfl, pre_of P_nil hK D_nil hnw hU hW⟩⟩ rfl rfl hl.1 rfl (lv_room (Nat.le_of_ble_eq_true rfl)) dX0_gain_31 ⟨Nat.le_of_ble_eq_true rfl, Nat.le_of_ble_eq_true rfl⟩) hS (fun q _ h => hFc q h) hFc (fun v u t H locs ht hvm hw hB hz1 hk1 hS => ?_)
        have hw := hw.symm; subst hw
        obtain ⟨hP1, hD1⟩ := hB
        rw [ht] at hP1
        obtain ⟨hP, hD⟩ := back hP hD [] rfl rfl hk1 hFc hP1 hD1
        obtain ⟨hb34, hf⟩ := gd hf
        refine va_iald (cA := cI) (n := 30) (f := x2 4) hx hb hK hP 20 0 at_WLS_2_4 rfl (inb_in hb34) dX0_gain_34 ?_
        refine lv_iload hx hb dX0_gain_35 (lv_at hl 4 rfl) ?_
        refine va_mmax hx hb (hml.trans hl.1.symm) hown (hG _ g_482) (hG _ g_374) (hG _ g_78) (hG _ g_375) (Nat.le_of_ble_eq_true rfl) (Nat.le_of_ble_eq_true rfl) (Nat.zero_le _) (Nat.zero_le _) dX0_gain_37 ?_
        refine lv_aload_n hx hb dX0_gain_40 rfl (lv_at hl 0 rfl) ?_
        refine va_get (D := D) (ci := 0) (v := .ref (a 2)) (C := RX0) (T := TX0) (N := 2) hx hb hG inG0 hown hK hP 0 at_WLS_0_0 rfl 1 (by decide) (hG _ g_223) (fun _ h9 => h9) rfl dX0_gain_41 ?_
        refine lv_iload hx hb dX0_gain_44 (lv_at hl 6 rfl) ?_
        obtain ⟨hb46, hf⟩ := gd hf
        refine va_iald (cA := cI) (n := 6) (f := x 2) hx hb hK hP 2 0 at_WLS_0_2 rfl (inb_in hb46) dX0_gain_46 ?_
        have J53 : ∀ (v5 : Int32) (H : Heap) (locs : List Loc) (ls : Array Slot), va_P D vwCl (kW cI a x ++ (kL cI a1 x1 ++ (kS cI a2 x2))) H → va_D A (kW cI a x ++ (kL cI a1 x1 ++ (kS cI a2 x2))) → va_S A s.heap H locs → lv_has ls 8 [(0, .ref (a 0)), (1, .ref (a1 0)), (2, .ref (a2 0)), (3, .int p1), (5, .int q1), (6, .int v5), (7, .int v3)] → f_X0_gain_j53 rc15 v3 v5 = some r → W p l e RM_X0_gain s m (([.ref (a 0), .ref (a1 0), .ref (a2 0), .int p1, .int p2] : List Value).toArray) below meth c H locs 0 0 (MQ below (QI0 D A (kW cI a x ++ (kL cI a1 x1 ++ (kS cI a2 x2))) r) (([.ref (a 0), .ref (a1 0), .ref (a2 0), .int p1, .int p2] : List Value).toArray) s 0 0 A) (F0 m 53 ls []) := by
          intro v5 H locs ls hP hD hS hl hf
          unfold f_X0_gain_j53 at hf
          obtain ⟨v6, ev6⟩ : ∃ y : Int32, y = (v3 + (1 : Int32)) := ⟨_, rfl⟩
          have hf := nm_x ev6 hf
          refine lv_iinc (v := v6) (lv' := [(7, .int v6), (0, .ref (a 0)), (1, .ref (a1 0)), (2, .ref (a2 0)), (3, .int p1), (5, .int q1), (6, .int v5)]) hx hb dX0_gain_53 hl (k := 6) rfl (by rw [ev6]; rfl) (by decide) rfl (fun ls hl => ?_)
          refine lv_goto (tgt := 15) hx hb dX0_gain_56 (by decide) ?_
          exact ih15 v5 v6 _ _ _ hP hD hS (lv_sub hl [1, 2, 3, 4, 5, 6, 0] rfl) hf
        refine lv_icmp_le (tgt := 53) hx hb dX0_gain_47 (by decide) (fun cc47 => ?_) (fun cc47 => ?_)
        · have hf := if_t cc47 hf
          exact J53 v2 _ _ _ hP hD hS (lv_sub hl [0, 1, 2, 3, 4, 5, 6] rfl) hf
        · have hf := if_f cc47 hf
          obtain ⟨v7, ev7⟩ : ∃ y : Int32, y = (v2 + (1 : Int32)) := ⟨_, rfl⟩
          have hf := nm_x ev7 hf
          refine lv_iinc (v := v7) (lv' := [(6, .int v7), (0, .ref (a 0)), (1, .ref (a1 0)), (2, .ref (a2 0)), (3, .int p1), (5, .int q1), (7, .int v3)]) hx hb dX0_gain_50 hl (k := 5) rfl (by rw [ev7]; rfl) (by decide) rfl (fun ls hl => ?_)
          exact J53 v7 _ _ _ hP hD hS (lv_sub hl [1, 2, 3, 4, 5, 0, 6] rfl) hf
  exact L15 FU (0 : Int32) (0 : Int32) _ _ _ hP hD hS (lv_sub hl [3, 4, 5, 6, 2, 1, 0] rfl) hf
def f_X0_bestBelt_j84 (rc51 : Int32 → Int32 → Int32 → Option (Int32 × HC)) (v6 : Int32) (v8 : Int32) (v9 : Int32) : Option (Int32 × HC) := nm (v6 + (10 : Int32)) (fun (v10 : Int32) => rc51 v8 v9 v10)
def f_X0_bestBelt_b51 (x1 : HC) (x2 : HC) (p1 : Int32) (X2 : HC) (rc51 : Int32 → Int32 → Int32 → Option (Int32 × HC)) (v4 : Int32) (v5 : Int32) (v6 : Int32) : Option (Int32 × HC) := (if (90 : Int32) < v6 then some (v4, X2) else bd (f_X0_gain X2 x1 x2 p1 v6) (fun (q7 : Int32) => (if q7 ≤ v5 then f_X0_bestBelt_j84 rc51 v6 v4 v5 else f_X0_bestBelt_j84 rc51 v6 v6 q7)))
def f_X0_bestBelt_b3 (x1 : HC) (x2 : HC) (p1 : Int32) (rc3 : Int32 → HC → Option (Int32 × HC)) (v1 : Int32) (X2 : HC) : Option (Int32 × HC) := (if (x1 0 0) ≤ v1 then bd (f_X0_gain X2 x1 x2 p1 (0 : Int32)) (fun (q3 : Int32) => lp (fun _ _ _ => none : Int32 → Int32 → Int32 → Option (Int32 × HC)) (f_X0_bestBelt_b51 x1 x2 p1 X2) FU (0 : Int32) q3 (10 : Int32)) else bd (f_X0_strongestRival X2 x1 x2 v1 p1) (fun (q11 : Int32) => (if inb v1 6 then nm (sa X2 2 v1 q11) (fun (X12 : HC) => nm (v1 + (1 : Int32)) (fun (v13 : Int32) => rc3 v13 X12)) else none)))
def f_X0_bestBelt (x : HC) (x1 : HC) (x2 : HC) (p1 : Int32) : Option (Int32 × HC) := lp (fun _ _ => none : Int32 → HC → Option (Int32 × HC)) (f_X0_bestBelt_b3 x1 x2 p1) FU (0 : Int32) x
abbrev RM_X0_bestBelt : Room := { frames := 3, cells := 0, slots := 0, locals := 70 }
set_option maxHeartbeats 4000000 in
set_option maxRecDepth 100000 in
theorem c_X0_bestBelt (l : Launch) (D : va_G) (cI cZ : ClassId) (a a1 a2 : Nat → Nat) (x : HC) (x1 : HC) (x2 : HC) (p1 : Int32) (sz : Nat) {r : Int32 × HC} (hf : f_X0_bestBelt x x1 x2 p1 = some r) : Met l yX0_bestBelt (wM yX0_bestBelt cX0_bestBelt 8 (some .int)) RM_X0_bestBelt (va_Pc [.ref (a 0), .ref (a1 0), .ref (a2 0), .int p1] (pre D cI cZ (kW cI a x ++ (kL cI a1 x1 ++ (kS cI a2 x2))) sz)) (QI D (va_A (kW cI a x ++ (kL cI a1 x1 ++ (kS cI a2 x2))) sz) (fun (u : HC) => (kW cI a u ++ (kL cI a1 x1 ++ (kS cI a2 x2)))) r) 0 0 (va_A (kW cI a x ++ (kL cI a1 x1 ++ (kS cI a2 x2))) sz) := by
  unfold f_X0_bestBelt at hf
  refine Met.ofW (cc := cX0_bestBelt) (maxL := 8) (ret := (some .int)) (by decide) rfl ?_
  intro p e s m args below meth c s₁ B hml hv
  obtain ⟨rfl, hsz, hP, hK, hD0, hnw⟩ := hv
  have hx := B.exec
  have hb := B.bytes
  have hr := B.returns
  have hts := atoms_spec (ws := wM yX0_bestBelt cX0_bestBelt 8 (some .int)) B.pre
  have hG : ∀ w ∈ GW, w.before (([.ref (a 0), .ref (a1 0), .ref (a2 0), .int p1] : List Value).toArray) s = true := fun w h => hts w (List.mem_cons_of_mem _ h)
  have hown : s.vm.findClass RX0 = some m.cls := findClass_of_methodNamed B.named
  have hlocks := B.notSynchronized
  subst hsz
  have hD := hD0.self (sz := s.heap.size)
  generalize hAe : va_A (kW cI a x ++ (kL cI a1 x1 ++ (kS cI a2 x2))) s.heap.size = A at hD ⊢
  have hA : ∀ q : Nat, s.heap.size ≤ q → A q := fun q h => by rw [← hAe]; exact Or.inr h
  have hS : va_S A s.heap s.heap [] := va_S.rf
  have hl := lv_entry ([.ref (a 0), .ref (a1 0), .ref (a2 0), .int p1]) (n := 8) (Nat.le_of_ble_eq_true rfl)
  rw [lg_entry_eq]
  generalize (lg_sl ([.ref (a 0), .ref (a1 0), .ref (a2 0), .int p1]) ++ List.replicate (8 - (lg_sl ([.ref (a 0), .ref (a1 0), .ref (a2 0), .int p1])).length) Slot.unset).toArray = ls at hl ⊢
  have hl : lv_has ls 8 [(0, .ref (a 0)), (1, .ref (a1 0)), (2, .ref (a2 0)), (3, .int p1)] := hl
  show W p l e RM_X0_bestBelt s m (([.ref (a 0), .ref (a1 0), .ref (a2 0), .int p1] : List Value).toArray) below meth c s.heap [] 0 0 (MQ below (QI D A (fun (u : HC) => (kW cI a u ++ (kL cI a1 x1 ++ (kS cI a2 x2)))) r) (([.ref (a 0), .ref (a1 0), .ref (a2 0), .int p1] : List Value).toArray) s 0 0 A) (F0 m 0 ls [])
  refine lv_iconst (v := (0 : Int32)) hx hb dX0_bestBelt_0 (by decide) ?_
  refine lv_istore (lv' := [(4, .int (0 : Int32)), (0, .ref (a 0)), (1, .ref (a1 0)), (2, .ref (a2 0)), (3, .int p1)]) hx hb dX0_bestBelt_1 hl (by decide) rfl (fun ls hl => ?_)
  have L3 : ∀ (n : Nat) (v1 : Int32) (X2 : HC) (H : Heap) (locs : List Loc) (ls : Array Slot), va_P D vwCl (kW cI a X2 ++ (kL cI a1 x1 ++ (kS cI a2 x2))) H → va_D A (kW cI a X2 ++ (kL cI a1 x1 ++ (kS cI a2 x2))) → va_S A s.heap H locs → lv_has ls 8 [(0, .ref (a 0)), (1, .ref (a1 0)), (2, .ref (a2 0)), (3, .int p1), (4, .int v1)] → lp (fun _ _ => none : Int32 → HC → Option (Int32 × HC)) (f_X0_bestBelt_b3 x1 x2 p1) n v1 X2 = some r → W p l e RM_X0_bestBelt s m (([.ref (a 0), .ref (a1 0), .ref (a2 0), .int p1] : List Value).toArray) below meth c H locs 0 0 (MQ below (QI D A (fun (u : HC) => (kW cI a u ++ (kL cI a1 x1 ++ (kS cI a2 x2)))) r) (([.ref (a 0), .ref (a1 0), .ref (a2 0), .int p1] : List Value).toArray) s 0 0 A) (F0 m 3 ls []) := by
    intro n
    induction n with
    | zero => intro v1 X2 H locs ls _ _ _ _ hf; cases (show (none : Option (Int32 × HC)) = some r from hf)
    | succ n ih3 =>
      intro v1 X2 H locs ls hP hD hS hl hf
      have hf : (f_X0_bestBelt_b3 x1 x2 p1) (lp (fun _ _ => none : Int32 → HC → Option (Int32 × HC)) (f_X0_bestBelt_b3 x1 x2 p1) n) v1 X2 = some r := hf
      generalize lp (fun _ _ => none : Int32 → HC → Option (Int32 × HC)) (f_X0_bestBelt_b3 x1 x2 p1) n = rc3 at ih3 hf
      unfold f_X0_bestBelt_b3 at hf
      refine lv_iload hx hb dX0_bestBelt_3 (lv_at hl 4 rfl) ?_
      refine lv_aload_n hx hb dX0_bestBelt_5 rfl (lv_at hl 1 rfl) ?_
      refine va_get (D := D) (ci := 2) (v := .int (x1 0 0)) (C := RX2) (T := TX2) (N := 18) hx hb hG inG2 hown hK hP 3 at_WLS_1_0 rfl 0 (by decide) (hG _ g_110) (fun _ h9 => h9) rfl dX0_bestBelt_6 ?_
      refine lv_icmp_ge (tgt := 34) hx hb dX0_bestBelt_9 (by decide) (fun cc9 => ?_) (fun cc9 => ?_)
      · have hf := if_t cc9 hf
        refine lv_iconst (v := (0 : Int32)) hx hb dX0_bestBelt_34 (by decide) ?_
        refine lv_istore (lv' := [(4, .int (0 : Int32)), (0, .ref (a 0)), (1, .ref (a1 0)), (2, .ref (a2 0)), (3, .int p1)]) hx hb dX0_bestBelt_35 hl (by decide) rfl (fun ls hl => ?_)
        refine lv_aload_n hx hb dX0_bestBelt_37 rfl (lv_at hl 1 rfl) ?_
        refine lv_aload_n hx hb dX0_bestBelt_38 rfl (lv_at hl 2 rfl) ?_
        refine lv_aload_n hx hb dX0_bestBelt_39 rfl (lv_at hl 3 rfl) ?_
        refine lv_iload_n hx hb dX0_bestBelt_40 rfl (lv_at hl 4 rfl) ?_
        refine lv_iconst (v := (0 : Int32)) hx hb dX0_bestBelt_41 (by decide) ?_
        obtain ⟨q3, hq3, hf⟩ := bd_x hf
        have hFc := freeS hD hS hA
        refine va_calli (va_runV (As := [.ref (a1 0), .ref (a2 0), .int p1, .int (0 : Int32)]) (rest := []) ⟨hx, hb, hml, hown, hG⟩ (c_X0_gain l D cI cZ a a1 a2 X2 x1 x2 p1 (0 : Int32) H.size hq3) (cwV 4 hG (gV g_483 g_484 g_29 g_76 g_485) rfl rfl rfl (by decide +kernel) ⟨Nat.le_of_ble_eq_true rfl, Nat.le_of_ble_eq_true rfl⟩) ⟨pre_blind, va_recv hK hP (ci := 0) (q0 := 0) rfl rfl, fun U hU hW => ⟨rfl, pre_of hP hK hD hnw hU hW⟩⟩ rfl rfl hl.1 rfl (lv_room (Nat.le_of_ble_eq_true rfl)) dX0_bestBelt_42 ⟨Nat.le_of_ble_eq_true rfl, Nat.le_of_ble_eq_true rfl⟩) hS (fun q _ h => hFc q h) hFc (fun v u t H locs ht hvm hw hB hz1 hk1 hS => ?_)
        have hw := hw.symm; subst hw
        obtain ⟨hP1, hD1⟩ := hB
        rw [ht] at hP1
        have hP := hP1
        have hD := hD1.weaken (fun _ q _ h => hFc q.1 h)
        refine lv_istore (lv' := [(5, .int q3), (4, .int (0 : Int32)), (0, .ref (a 0)), (1, .ref (a1 0)), (2, .ref (a2 0)), (3, .int p1)]) hx hb dX0_bestBelt_45 hl (by decide) rfl (fun ls hl => ?_)
        refine lv_bipush (v := (10 : Int32)) hx hb dX0_bestBelt_47 (by decide) ?_
        refine lv_istore (lv' := [(6, .int (10 : Int32)), (5, .int q3), (4, .int (0 : Int32)), (0, .ref (a 0)), (1, .ref (a1 0)), (2, .ref (a2 0)), (3, .int p1)]) hx hb dX0_bestBelt_49 hl (by decide) rfl (fun ls hl => ?_)
        have L51 : ∀ (n : Nat) (v4 : Int32) (v5 : Int32) (v6 : Int32) (H : Heap) (locs : List Loc) (ls : Array Slot), va_P D vwCl (kW cI a X2 ++ (kL cI a1 x1 ++ (kS cI a2 x2))) H → va_D A (kW cI a X2 ++ (kL cI a1 x1 ++ (kS cI a2 x2))) → va_S A s.heap H locs → lv_has ls 8 [(0, .ref (a 0)), (1, .ref (a1 0)), (2, .ref (a2 0)), (3, .int p1), (4, .int v4), (5, .int v5), (6, .int v6)] → lp (fun _ _ _ => none : Int32 → Int32 → Int32 → Option (Int32 × HC)) (f_X0_bestBelt_b51 x1 x2 p1 X2) n v4 v5 v6 = some r → W p l e RM_X0_bestBelt s m (([.ref (a 0), .ref (a1 0), .ref (a2 0), .int p1] : List Value).toArray) below meth c H locs 0 0 (MQ below (QI D A (fun (u : HC) => (kW cI a u ++ (kL cI a1 x1 ++ (kS cI a2 x2)))) r) (([.ref (a 0), .ref (a1 0), .ref (a2 0), .int p1] : List Value).toArray) s 0 0 A) (F0 m 51 ls []) := by
          intro n
          induction n with
          | zero => intro v4 v5 v6 H locs ls _ _ _ _ hf; cases (show (none : Option (Int32 × HC)) = some r from hf)
          | succ n ih51 =>
            intro v4 v5 v6 H locs ls hP hD hS hl hf
            have hf : (f_X0_bestBelt_b51 x1 x2 p1 X2) (lp (fun _ _ _ => none : Int32 → Int32 → Int32 → Option (Int32 × HC)) (f_X0_bestBelt_b51 x1 x2 p1 X2) n) v4 v5 v6 = some r := hf
            generalize lp (fun _ _ _ => none : Int32 → Int32 → Int32 → Option (Int32 × HC)) (f_X0_bestBelt_b51 x1 x2 p1 X2) n = rc51 at ih51 hf
            unfold f_X0_bestBelt_b51 at hf
            refine lv_iload hx hb dX0_bestBelt_51 (lv_at hl 6 rfl) ?_
            refine lv_bipush (v := (90 : Int32)) hx hb dX0_bestBelt_53 (by decide) ?_
            refine lv_icmp_gt (tgt := 90) hx hb dX0_bestBelt_55 (by decide) (fun cc55 => ?_) (fun cc55 => ?_)
            · have hf := if_t cc55 hf
              refine lv_iload hx hb dX0_bestBelt_90 (lv_at hl 4 rfl) ?_
              exact W.iret (v := v4) hx hb hr (fun t ht hW => ⟨⟨v4, X2, rfl, ⟨pr_1 hf, pr_2 hf⟩, by rw [ht]; exact hP, hD⟩, hS.F ht⟩) hS.2.2 dX0_bestBelt_92
            · have hf := if_f cc55 hf
              refine lv_aload_n hx hb dX0_bestBelt_58 rfl (lv_at hl 0 rfl) ?_
              refine lv_aload_n hx hb dX0_bestBelt_59 rfl (lv_at hl 1 rfl) ?_
              refine lv_aload_n hx hb dX0_bestBelt_60 rfl (lv_at hl 2 rfl) ?_
              refine lv_iload_n hx hb dX0_bestBelt_61 rfl (lv_at hl 3 rfl) ?_
              refine lv_iload hx hb dX0_bestBelt_62 (lv_at hl 6 rfl) ?_
              obtain ⟨q7, hq7, hf⟩ := bd_x hf
              have hFc := freeS hD hS hA
              refine va_calli (va_runV (As := [.ref (a1 0), .ref (a2 0), .int p1, .int v6]) (rest := []) ⟨hx, hb, hml, hown, hG⟩ (c_X0_gain l D cI cZ a a1 a2 X2 x1 x2 p1 v6 H.size hq7) (cwV 4 hG (gV g_483 g_484 g_29 g_76 g_485) rfl rfl rfl (by decide +kernel) ⟨Nat.le_of_ble_eq_true rfl, Nat.le_of_ble_eq_true rfl⟩) ⟨pre_blind, va_recv hK hP (ci := 0) (q0 := 0) rfl rfl, fun U hU hW => ⟨rfl, pre_of hP hK hD hnw hU hW⟩⟩ rfl rfl hl.1 rfl (lv_room (Nat.le_of_ble_eq_true rfl)) dX0_bestBelt_64 ⟨Nat.le_of_ble_eq_true rfl, Nat.le_of_ble_eq_true rfl⟩) hS (fun q _ h => hFc q h) hFc (fun v u t H locs ht hvm hw hB hz1 hk1 hS => ?_)
              have hw := hw.symm; subst hw
              obtain ⟨hP1, hD1⟩ := hB
              rw [ht] at hP1
              have hP := hP1
              have hD := hD1.weaken (fun _ q _ h => hFc q.1 h)
              refine lv_istore (lv' := [(7, .int q7), (0, .ref (a 0)), (1, .ref (a1 0)), (2, .ref (a2 0)), (3, .int p1), (4, .int v4), (5, .int v5), (6, .int v6)]) hx hb dX0_bestBelt_67 hl (by decide) rfl (fun ls hl => ?_)
              refine lv_iload hx hb dX0_bestBelt_69 (lv_at hl 0 rfl) ?_
              refine lv_iload hx hb dX0_bestBelt_71 (lv_at hl 6 rfl) ?_
              have J84 : ∀ (v8 : Int32) (v9 : Int32) (H : Heap) (locs : List Loc) (ls : Array Slot), va_P D vwCl (kW cI a X2 ++ (kL cI a1 x1 ++ (kS cI a2 x2))) H → va_D A (kW cI a X2 ++ (kL cI a1 x1 ++ (kS cI a2 x2))) → va_S A s.heap H locs → lv_has ls 8 [(0, .ref (a 0)), (1, .ref (a1 0)), (2, .ref (a2 0)), (3, .int p1), (4, .int v8), (5, .int v9), (6, .int v6)] → f_X0_bestBelt_j84 rc51 v6 v8 v9 = some r → W p l e RM_X0_bestBelt s m (([.ref (a 0), .ref (a1 0), .ref (a2 0), .int p1] : List Value).toArray) below meth c H locs 0 0 (MQ below (QI D A (fun (u : HC) => (kW cI a u ++ (kL cI a1 x1 ++ (kS cI a2 x2)))) r) (([.ref (a 0), .ref (a1 0), .ref (a2 0), .int p1] : List Value).toArray) s 0 0 A) (F0 m 84 ls []) := by
                intro v8 v9 H locs ls hP hD hS hl hf
                unfold f_X0_bestBelt_j84 at hf
                obtain ⟨v10, ev10⟩ : ∃ y : Int32, y = (v6 + (10 : Int32)) := ⟨_, rfl⟩
                have hf := nm_x ev10 hf
                refine lv_iinc (v := v10) (lv' := [(6, .int v10), (0, .ref (a 0)), (1, .ref (a1 0)), (2, .ref (a2 0)), (3, .int p1), (4, .int v8), (5, .int v9)]) hx hb dX0_bestBelt_84 hl (k := 6) rfl (by rw [ev10]; rfl) (by decide) rfl (fun ls hl => ?_)
                refine lv_goto (tgt := 51) hx hb dX0_bestBelt_87 (by decide) ?_
                exact ih51 v8 v9 v10 _ _ _ hP hD hS (lv_sub hl [1, 2, 3, 4, 5, 6, 0] rfl) hf
              refine lv_icmp_le (tgt := 84) hx hb dX0_bestBelt_73 (by decide) (fun cc73 => ?_) (fun cc73 => ?_)
              · have hf := if_t cc73 hf
                exact J84 v4 v5 _ _ _ hP hD hS (lv_sub hl [1, 2, 3, 4, 5, 6, 7] rfl) hf
              · have hf := if_f cc73 hf
                refine lv_iload hx hb dX0_bestBelt_76 (lv_at hl 0 rfl) ?_
                refine lv_istore (lv' := [(5, .int q7), (7, .int q7), (0, .ref (a 0)), (1, .ref (a1 0)), (2, .ref (a2 0)), (3, .int p1), (4, .int v4), (6, .int v6)]) hx hb dX0_bestBelt_78 hl (by decide) rfl (fun ls hl => ?_)
                refine lv_iload hx hb dX0_bestBelt_80 (lv_at hl 7 rfl) ?_
                refine lv_istore (lv' := [(4, .int v6), (5, .int q7), (7, .int q7), (0, .ref (a 0)), (1, .ref (a1 0)), (2, .ref (a2 0)), (3, .int p1), (6, .int v6)]) hx hb dX0_bestBelt_82 hl (by decide) rfl (fun ls hl => ?_)
                exact J84 v6 q7 _ _ _ hP hD hS (lv_sub hl [3, 4, 5, 6, 0, 1, 7] rfl) hf
        exact L51 FU (0 : Int32) q3 (10 : Int32) _ _ _ hP hD hS (lv_sub hl [3, 4, 5, 6, 2, 1, 0] rfl) hf
      · have hf := if_f cc9 hf
        refine lv_aload_n hx hb dX0_bestBelt_12 rfl (lv_at hl 0 rfl) ?_
        refine va_get (D := D) (ci := 0) (v := .ref (a 2)) (C := RX0) (T := TX0) (N := 2) hx hb hG inG0 hown hK hP 0 at_WLS_0_0 rfl 1 (by decide) (hG _ g_223) (fun _ h9 => h9) rfl dX0_bestBelt_13 ?_
        refine lv_iload hx hb dX0_bestBelt_16 (lv_at hl 4 rfl) ?_
        refine lv_aload_n hx hb dX0_bestBelt_18 rfl (lv_at hl 0 rfl) ?_
        refine lv_aload_n hx hb dX0_bestBelt_19 rfl (lv_at hl 1 rfl) ?_
        refine lv_aload_n hx hb dX0_bestBelt_20 rfl (lv_at hl 2 rfl) ?_
        refine lv_iload hx hb dX0_bestBelt_21 (lv_at hl 4 rfl) ?_
        refine lv_iload_n hx hb dX0_bestBelt_23 rfl (lv_at hl 3 rfl) ?_
        obtain ⟨q11, hq11, hf⟩ := bd_x hf
        have hFc := freeS hD hS hA
        refine va_calli (va_runV (As := [.ref (a1 0), .ref (a2 0), .int v1, .int p1]) (rest := [.int v1, .ref (a 2)]) ⟨hx, hb, hml, hown, hG⟩ (c_X0_strongestRival l D cI cZ a a1 a2 X2 x1 x2 v1 p1 H.size hq11) (cwV 4 hG (gV g_477 g_478 g_28 g_76 g_479) rfl rfl rfl (by decide +kernel) ⟨Nat.le_of_ble_eq_true rfl, Nat.le_of_ble_eq_true rfl⟩) ⟨pre_blind, va_recv hK hP (ci := 0) (q0 := 0) rfl rfl, fun U hU hW => ⟨rfl, pre_of hP hK hD hnw hU hW⟩⟩ rfl rfl hl.1 rfl (lv_room (Nat.le_of_ble_eq_true rfl)) dX0_bestBelt_24 ⟨Nat.le_of_ble_eq_true rfl, Nat.le_of_ble_eq_true rfl⟩) hS (fun q _ h => hFc q h) hFc (fun v u t H locs ht hvm hw hB hz1 hk1 hS => ?_)
        have hw := hw.symm; subst hw
        obtain ⟨hP1, hD1⟩ := hB
        rw [ht] at hP1
        have hP := hP1
        have hD := hD1.weaken (fun _ q _ h => hFc q.1 h)
        obtain ⟨hb27, hf⟩ := gd hf
        refine va_iast (cA := cI) (n := 6) (f := X2 2) hx hb hK hP hD hS 2 0 at_WLS_0_2 rfl (inb_in hb27) dX0_bestBelt_27 (fun H locs hP hD hS => ?_)
        obtain ⟨X12, eX12⟩ : ∃ y : HC, y = (sa X2 2 v1 q11) := ⟨_, rfl⟩
        have hf := nm_x eX12 hf
        have hP := wP (sa_WLS_0_2.trans (congrArg (fun z : HC => (kW cI a z ++ (kL cI a1 x1 ++ (kS cI a2 x2)))) eX12.symm)) hP
        have hD := wD (sa_WLS_0_2.trans (congrArg (fun z : HC => (kW cI a z ++ (kL cI a1 x1 ++ (kS cI a2 x2)))) eX12.symm)) hD
        obtain ⟨v13, ev13⟩ : ∃ y : Int32, y = (v1 + (1 : Int32)) := ⟨_, rfl⟩
        have hf := nm_x ev13 hf
        refine lv_iinc (v := v13) (lv' := [(4, .int v13), (0, .ref (a 0)), (1, .ref (a1 0)), (2, .ref (a2 0)), (3, .int p1)]) hx hb dX0_bestBelt_28 hl (k := 4) rfl (by rw [ev13]; rfl) (by decide) rfl (fun ls hl => ?_)
        refine lv_goto (tgt := 3) hx hb dX0_bestBelt_31 (by decide) ?_
        exact ih3 v13 X12 _ _ _ hP hD hS (lv_sub hl [1, 2, 3, 4, 0] rfl) hf
  exact L3 FU (0 : Int32) x _ _ _ hP hD hS (lv_sub hl [1, 2, 3, 4, 0] rfl) hf
def f_X0_roundChanges_j42 (rc5 : Int32 → Int32 → HC → Option (Int32 × HC)) (v1 : Int32) (v2 : Int32) (q4 : Int32 × HC) (v5 : Int32) (v6 : Int32) : Option (Int32 × HC) := nm (v1 ||| v6) (fun (v7 : Int32) => (if inb v2 5 then nm (sa q4.2 1 v2 v5) (fun (X8 : HC) => nm (v2 + (1 : Int32)) (fun (v9 : Int32) => rc5 v7 v9 X8)) else none))
def f_X0_roundChanges_b5 (x1 : HC) (x2 : HC) (rc5 : Int32 → Int32 → HC → Option (Int32 × HC)) (v1 : Int32) (v2 : Int32) (X3 : HC) : Option (Int32 × HC) := (if (x1 0 1) ≤ v2 then (if bz v1 then some (v1, X3) else none) else bd (f_X0_bestBelt X3 x1 x2 v2) (fun (q4 : Int32 × HC) => nm q4.1 (fun (v5 : Int32) => (if inb v2 5 then (if v5 = (q4.2 1 (Int32.toNatClampNeg v2)) then f_X0_roundChanges_j42 rc5 v1 v2 q4 v5 (0 : Int32) else f_X0_roundChanges_j42 rc5 v1 v2 q4 v5 (1 : Int32)) else none))))
def f_X0_roundChanges (x : HC) (x1 : HC) (x2 : HC) : Option (Int32 × HC) := lp (fun _ _ _ => none : Int32 → Int32 → HC → Option (Int32 × HC)) (f_X0_roundChanges_b5 x1 x2) FU (0 : Int32) (0 : Int32) x
abbrev RM_X0_roundChanges : Room := { frames := 4, cells := 0, slots := 0, locals := 97 }
set_option maxHeartbeats 4000000 in
set_option maxRecDepth 100000 in
theorem c_X0_roundChanges (l : Launch) (D : va_G) (cI cZ : ClassId) (a a1 a2 : Nat → Nat) (x : HC) (x1 : HC) (x2 : HC) (sz : Nat) {r : Int32 × HC} (hf : f_X0_roundChanges x x1 x2 = some r) : Met l yX0_roundChanges (wM yX0_roundChanges cX0_roundChanges 6 (some .boolean)) RM_X0_roundChanges (va_Pc [.ref (a 0), .ref (a1 0), .ref (a2 0)] (pre D cI cZ (kW cI a x ++ (kL cI a1 x1 ++ (kS cI a2 x2))) sz)) (QI D (va_A (kW cI a x ++ (kL cI a1 x1 ++ (kS cI a2 x2))) sz) (fun (u : HC) => (kW cI a u ++ (kL cI a1 x1 ++ (kS cI a2 x2)))) r) 0 0 (va_A (kW cI a x ++ (kL cI a1 x1 ++ (kS cI a2 x2))) sz) := by
  unfold f_X0_roundChanges at hf
  refine Met.ofW (cc := cX0_roundChanges) (maxL := 6) (ret := (some .boolean)) (by decide) rfl ?_
  intro p e s m args below meth c s₁ B hml hv
  obtain ⟨rfl, hsz, hP, hK, hD0, hnw⟩ := hv
  have hx := B.exec
  have hb := B.bytes
  have hr := B.returns
  have hts := atoms_spec (ws := wM yX0_roundChanges cX0_roundChanges 6 (some .boolean)) B.pre
  have hG : ∀ w ∈ GW, w.before (([.ref (a 0), .ref (a1 0), .ref (a2 0)] : List Value).toArray) s = true := fun w h => hts w (List.mem_cons_of_mem _ h)
  have hown : s.vm.findClass RX0 = some m.cls := findClass_of_methodNamed B.named
  have hlocks := B.notSynchronized
  subst hsz
  have hD := hD0.self (sz := s.heap.size)
  generalize hAe : va_A (kW cI a x ++ (kL cI a1 x1 ++ (kS cI a2 x2))) s.heap.size = A at hD ⊢
  have hA : ∀ q : Nat, s.heap.size ≤ q → A q := fun q h => by rw [← hAe]; exact Or.inr h
  have hS : va_S A s.heap s.heap [] := va_S.rf
  have hl := lv_entry ([.ref (a 0), .ref (a1 0), .ref (a2 0)]) (n := 6) (Nat.le_of_ble_eq_true rfl)
  rw [lg_entry_eq]
  generalize (lg_sl ([.ref (a 0), .ref (a1 0), .ref (a2 0)]) ++ List.replicate (6 - (lg_sl ([.ref (a 0), .ref (a1 0), .ref (a2 0)])).length) Slot.unset).toArray = ls at hl ⊢
  have hl : lv_has ls 6 [(0, .ref (a 0)), (1, .ref (a1 0)), (2, .ref (a2 0))] := hl
  show W p l e RM_X0_roundChanges s m (([.ref (a 0), .ref (a1 0), .ref (a2 0)] : List Value).toArray) below meth c s.heap [] 0 0 (MQ below (QI D A (fun (u : HC) => (kW cI a u ++ (kL cI a1 x1 ++ (kS cI a2 x2)))) r) (([.ref (a 0), .ref (a1 0), .ref (a2 0)] : List Value).toArray) s 0 0 A) (F0 m 0 ls [])
  refine lv_iconst (v := (0 : Int32)) hx hb dX0_roundChanges_0 (by decide) ?_
  refine lv_istore_n (lv' := [(3, .int (0 : Int32)), (0, .ref (a 0)), (1, .ref (a1 0)), (2, .ref (a2 0))]) hx hb dX0_roundChanges_1 rfl hl (by decide) rfl (fun ls hl => ?_)
  refine lv_iconst (v := (0 : Int32)) hx hb dX0_roundChanges_2 (by decide) ?_
  refine lv_istore (lv' := [(4, .int (0 : Int32)), (3, .int (0 : Int32)), (0, .ref (a 0)), (1, .ref (a1 0)), (2, .ref (a2 0))]) hx hb dX0_roundChanges_3 hl (by decide) rfl (fun ls hl => ?_)
  have L5 : ∀ (n : Nat) (v1 : Int32) (v2 : Int32) (X3 : HC) (H : Heap) (locs : List Loc) (ls : Array Slot), va_P D vwCl (kW cI a X3 ++ (kL cI a1 x1 ++ (kS cI a2 x2))) H → va_D A (kW cI a X3 ++ (kL cI a1 x1 ++ (kS cI a2 x2))) → va_S A s.heap H locs → lv_has ls 6 [(0, .ref (a 0)), (1, .ref (a1 0)), (2, .ref (a2 0)), (3, .int v1), (4, .int v2)] → lp (fun _ _ _ => none : Int32 → Int32 → HC → Option (Int32 × HC)) (f_X0_roundChanges_b5 x1 x2) n v1 v2 X3 = some r → W p l e RM_X0_roundChanges s m (([.ref (a 0), .ref (a1 0), .ref (a2 0)] : List Value).toArray) below meth c H locs 0 0 (MQ below (QI D A (fun (u : HC) => (kW cI a u ++ (kL cI a1 x1 ++ (kS cI a2 x2)))) r) (([.ref (a 0), .ref (a1 0), .ref (a2 0)] : List Value).toArray) s 0 0 A) (F0 m 5 ls []) := by
    intro n
    induction n with
    | zero => intro v1 v2 X3 H locs ls _ _ _ _ hf; cases (show (none : Option (Int32 × HC)) = some r from hf)
    | succ n ih5 =>
      intro v1 v2 X3 H locs ls hP hD hS hl hf
      have hf : (f_X0_roundChanges_b5 x1 x2) (lp (fun _ _ _ => none : Int32 → Int32 → HC → Option (Int32 × HC)) (f_X0_roundChanges_b5 x1 x2) n) v1 v2 X3 = some r := hf
      generalize lp (fun _ _ _ => none : Int32 → Int32 → HC → Option (Int32 × HC)) (f_X0_roundChanges_b5 x1 x2) n = rc5 at ih5 hf
      unfold f_X0_roundChanges_b5 at hf
      refine lv_iload hx hb dX0_roundChanges_5 (lv_at hl 4 rfl) ?_
      refine lv_aload_n hx hb dX0_roundChanges_7 rfl (lv_at hl 1 rfl) ?_
      refine va_get (D := D) (ci := 2) (v := .int (x1 0 1)) (C := RX2) (T := TX2) (N := 18) hx hb hG inG2 hown hK hP 3 at_WLS_1_0 rfl 1 (by decide) (hG _ g_113) (fun _ h9 => h9) rfl dX0_roundChanges_8 ?_
      refine lv_icmp_ge (tgt := 59) hx hb dX0_roundChanges_11 (by decide) (fun cc11 => ?_) (fun cc11 => ?_)
      · have hf := if_t cc11 hf
        refine lv_iload_n hx hb dX0_roundChanges_59 rfl (lv_at hl 3 rfl) ?_
        obtain ⟨hz60, hf⟩ := gd hf
        exact W.zret (v := v1) hx hb hr (bz_n hz60) (fun t ht hW => ⟨⟨v1, X3, rfl, ⟨pr_1 hf, pr_2 hf⟩, by rw [ht]; exact hP, hD⟩, hS.F ht⟩) hS.2.2 dX0_roundChanges_60
      · have hf := if_f cc11 hf
        refine lv_aload_n hx hb dX0_roundChanges_14 rfl (lv_at hl 0 rfl) ?_
        refine lv_aload_n hx hb dX0_roundChanges_15 rfl (lv_at hl 1 rfl) ?_
        refine lv_aload_n hx hb dX0_roundChanges_16 rfl (lv_at hl 2 rfl) ?_
        refine lv_iload hx hb dX0_roundChanges_17 (lv_at hl 4 rfl) ?_
        obtain ⟨q4, hq4, hf⟩ := bd_x hf
        have hFc := freeS hD hS hA
        refine va_calli (va_runV (As := [.ref (a1 0), .ref (a2 0), .int v2]) (rest := []) ⟨hx, hb, hml, hown, hG⟩ (c_X0_bestBelt l D cI cZ a a1 a2 X3 x1 x2 v2 H.size hq4) (cwV 3 hG (gV g_474 g_475 g_27 g_76 g_476) rfl rfl rfl (by decide +kernel) ⟨Nat.le_of_ble_eq_true rfl, Nat.le_of_ble_eq_true rfl⟩) ⟨pre_blind, va_recv hK hP (ci := 0) (q0 := 0) rfl rfl, fun U hU hW => ⟨rfl, pre_of hP hK hD hnw hU hW⟩⟩ rfl rfl hl.1 rfl (lv_room (Nat.le_of_ble_eq_true rfl)) dX0_roundChanges_19 ⟨Nat.le_of_ble_eq_true rfl, Nat.le_of_ble_eq_true rfl⟩) hS (fun q _ h => hFc q h) hFc (fun v u t H locs ht hvm hw hB hz1 hk1 hS => ?_)
        obtain ⟨rfl, rfl⟩ := hw
        obtain ⟨hP1, hD1⟩ := hB
        rw [ht] at hP1
        have hP := hP1
        have hD := hD1.weaken (fun _ q _ h => hFc q.1 h)
        refine lv_topi (fun v5 ev5 => ?_)
        have hf := nm_x ev5 hf
        refine lv_istore (lv' := [(5, .int v5), (0, .ref (a 0)), (1, .ref (a1 0)), (2, .ref (a2 0)), (3, .int v1), (4, .int v2)]) hx hb dX0_roundChanges_22 hl (by decide) rfl (fun ls hl => ?_)
        refine lv_iload_n hx hb dX0_roundChanges_24 rfl (lv_at hl 4 rfl) ?_
        refine lv_iload hx hb dX0_roundChanges_25 (lv_at hl 0 rfl) ?_
        refine lv_aload_n hx hb dX0_roundChanges_27 rfl (lv_at hl 1 rfl) ?_
        refine va_get (D := D) (ci := 0) (v := .ref (a 1)) (C := RX0) (T := TX0) (N := 2) hx hb hG inG0 hown hK hP 0 at_WLS_0_0 rfl 0 (by decide) (hG _ g_221) (fun _ h9 => h9) rfl dX0_roundChanges_28 ?_
        refine lv_iload hx hb dX0_roundChanges_31 (lv_at hl 5 rfl) ?_
        obtain ⟨hb33, hf⟩ := gd hf
        refine va_iald (cA := cI) (n := 5) (f := q4.2 1) hx hb hK hP 1 0 at_WLS_0_1 rfl (inb_in hb33) dX0_roundChanges_33 ?_
        have J42 : ∀ (v6 : Int32) (H : Heap) (locs : List Loc) (ls : Array Slot), va_P D vwCl (kW cI a q4.2 ++ (kL cI a1 x1 ++ (kS cI a2 x2))) H → va_D A (kW cI a q4.2 ++ (kL cI a1 x1 ++ (kS cI a2 x2))) → va_S A s.heap H locs → lv_has ls 6 [(0, .ref (a 0)), (1, .ref (a1 0)), (2, .ref (a2 0)), (4, .int v2), (5, .int v5)] → f_X0_roundChanges_j42 rc5 v1 v2 q4 v5 v6 = some r → W p l e RM_X0_roundChanges s m (([.ref (a 0), .ref (a1 0), .ref (a2 0)] : List Value).toArray) below meth c H locs 0 0 (MQ below (QI D A (fun (u : HC) => (kW cI a u ++ (kL cI a1 x1 ++ (kS cI a2 x2)))) r) (([.ref (a 0), .ref (a1 0), .ref (a2 0)] : List Value).toArray) s 0 0 A) (F0 m 42 ls [.int v6, .int v1]) := by
          intro v6 H locs ls hP hD hS hl hf
          unfold f_X0_roundChanges_j42 at hf
          refine lv_ior hx hb dX0_roundChanges_42 ?_
          refine lv_topi (fun v7 ev7 => ?_)
          have hf := nm_x ev7 hf
          refine lv_istore_n (lv' := [(3, .int v7), (0, .ref (a 0)), (1, .ref (a1 0)), (2, .ref (a2 0)), (4, .int v2), (5, .int v5)]) hx hb dX0_roundChanges_43 rfl hl (by decide) rfl (fun ls hl => ?_)
          refine lv_aload_n hx hb dX0_roundChanges_44 rfl (lv_at hl 1 rfl) ?_
          refine va_get (D := D) (ci := 0) (v := .ref (a 1)) (C := RX0) (T := TX0) (N := 2) hx hb hG inG0 hown hK hP 0 at_WLS_0_0 rfl 0 (by decide) (hG _ g_221) (fun _ h9 => h9) rfl dX0_roundChanges_45 ?_
          refine lv_iload hx hb dX0_roundChanges_48 (lv_at hl 4 rfl) ?_
          refine lv_iload hx hb dX0_roundChanges_50 (lv_at hl 5 rfl) ?_
          obtain ⟨hb52, hf⟩ := gd hf
          refine va_iast (cA := cI) (n := 5) (f := q4.2 1) hx hb hK hP hD hS 1 0 at_WLS_0_1 rfl (inb_in hb52) dX0_roundChanges_52 (fun H locs hP hD hS => ?_)
          obtain ⟨X8, eX8⟩ : ∃ y : HC, y = (sa q4.2 1 v2 v5) := ⟨_, rfl⟩
          have hf := nm_x eX8 hf
          have hP := wP (sa_WLS_0_1.trans (congrArg (fun z : HC => (kW cI a z ++ (kL cI a1 x1 ++ (kS cI a2 x2)))) eX8.symm)) hP
          have hD := wD (sa_WLS_0_1.trans (congrArg (fun z : HC => (kW cI a z ++ (kL cI a1 x1 ++ (kS cI a2 x2)))) eX8.symm)) hD
          obtain ⟨v9, ev9⟩ : ∃ y : Int32, y = (v2 + (1 : Int32)) := ⟨_, rfl⟩
          have hf := nm_x ev9 hf
          refine lv_iinc (v := v9) (lv' := [(4, .int v9), (3, .int v7), (0, .ref (a 0)), (1, .ref (a1 0)), (2, .ref (a2 0)), (5, .int v5)]) hx hb dX0_roundChanges_53 hl (k := 4) rfl (by rw [ev9]; rfl) (by decide) rfl (fun ls hl => ?_)
          refine lv_goto (tgt := 5) hx hb dX0_roundChanges_56 (by decide) ?_
          exact ih5 v7 v9 X8 _ _ _ hP hD hS (lv_sub hl [2, 3, 4, 1, 0] rfl) hf
        refine lv_icmp_eq (tgt := 41) hx hb dX0_roundChanges_34 (by decide) (fun cc34 => ?_) (fun cc34 => ?_)
        · have hf := if_t cc34 hf
          refine lv_iconst (v := (0 : Int32)) hx hb dX0_roundChanges_41 (by decide) ?_
          exact J42 (0 : Int32) _ _ _ hP hD hS (lv_sub hl [1, 2, 3, 5, 0] rfl) hf
        · have hf := if_f cc34 hf
          refine lv_iconst (v := (1 : Int32)) hx hb dX0_roundChanges_37 (by decide) ?_
          refine lv_goto (tgt := 42) hx hb dX0_roundChanges_38 (by decide) ?_
          exact J42 (1 : Int32) _ _ _ hP hD hS (lv_sub hl [1, 2, 3, 5, 0] rfl) hf
  exact L5 FU (0 : Int32) (0 : Int32) x _ _ _ hP hD hS (lv_sub hl [2, 3, 4, 1, 0] rfl) hf
def f_X0_settle_b27 (x1 : HC) (x2 : HC) (rc27 : Int32 → HC → Option (Int32 × HC)) (v3 : Int32) (X4 : HC) : Option (Int32 × HC) := (if (20 : Int32) ≤ v3 then some ((-1 : Int32), X4) else bd (f_X0_roundChanges X4 x1 x2) (fun (q5 : Int32 × HC) => (if q5.1 = 0 then some (v3, q5.2) else nm (v3 + (1 : Int32)) (fun (v6 : Int32) => rc27 v6 q5.2))))
def f_X0_settle_b2 (x1 : HC) (x2 : HC) (rc2 : Int32 → HC → Option (Int32 × HC)) (v1 : Int32) (X2 : HC) : Option (Int32 × HC) := (if (5 : Int32) ≤ v1 then lp (fun _ _ => none : Int32 → HC → Option (Int32 × HC)) (f_X0_settle_b27 x1 x2) FU (0 : Int32) X2 else (if inb v1 5 then (if inb v1 5 then nm (sa X2 1 v1 (x2 1 (Int32.toNatClampNeg v1))) (fun (X7 : HC) => nm (v1 + (1 : Int32)) (fun (v8 : Int32) => rc2 v8 X7)) else none) else none))
def f_X0_settle (x : HC) (x1 : HC) (x2 : HC) : Option (Int32 × HC) := lp (fun _ _ => none : Int32 → HC → Option (Int32 × HC)) (f_X0_settle_b2 x1 x2) FU (0 : Int32) x
abbrev RM_X0_settle : Room := { frames := 5, cells := 0, slots := 0, locals := 122 }
set_option maxHeartbeats 4000000 in
set_option maxRecDepth 100000 in
theorem c_X0_settle (l : Launch) (D : va_G) (cI cZ : ClassId) (a a1 a2 : Nat → Nat) (x : HC) (x1 : HC) (x2 : HC) (sz : Nat) {r : Int32 × HC} (hf : f_X0_settle x x1 x2 = some r) : Met l yX0_settle (wM yX0_settle cX0_settle 4 (some .int)) RM_X0_settle (va_Pc [.ref (a 0), .ref (a1 0), .ref (a2 0)] (pre D cI cZ (kW cI a x ++ (kL cI a1 x1 ++ (kS cI a2 x2))) sz)) (QI D (va_A (kW cI a x ++ (kL cI a1 x1 ++ (kS cI a2 x2))) sz) (fun (u : HC) => (kW cI a u ++ (kL cI a1 x1 ++ (kS cI a2 x2)))) r) 0 0 (va_A (kW cI a x ++ (kL cI a1 x1 ++ (kS cI a2 x2))) sz) := by
  unfold f_X0_settle at hf
  refine Met.ofW (cc := cX0_settle) (maxL := 4) (ret := (some .int)) (by decide) rfl ?_
  intro p e s m args below meth c s₁ B hml hv
  obtain ⟨rfl, hsz, hP, hK, hD0, hnw⟩ := hv
  have hx := B.exec
  have hb := B.bytes
  have hr := B.returns
  have hts := atoms_spec (ws := wM yX0_settle cX0_settle 4 (some .int)) B.pre
  have hG : ∀ w ∈ GW, w.before (([.ref (a 0), .ref (a1 0), .ref (a2 0)] : List Value).toArray) s = true := fun w h => hts w (List.mem_cons_of_mem _ h)
  have hown : s.vm.findClass RX0 = some m.cls := findClass_of_methodNamed B.named
  have hlocks := B.notSynchronized
  subst hsz
  have hD := hD0.self (sz := s.heap.size)
  generalize hAe : va_A (kW cI a x ++ (kL cI a1 x1 ++ (kS cI a2 x2))) s.heap.size = A at hD ⊢
  have hA : ∀ q : Nat, s.heap.size ≤ q → A q := fun q h => by rw [← hAe]; exact Or.inr h
  have hS : va_S A s.heap s.heap [] := va_S.rf
  have hl := lv_entry ([.ref (a 0), .ref (a1 0), .ref (a2 0)]) (n := 4) (Nat.le_of_ble_eq_true rfl)
  rw [lg_entry_eq]
  generalize (lg_sl ([.ref (a 0), .ref (a1 0), .ref (a2 0)]) ++ List.replicate (4 - (lg_sl ([.ref (a 0), .ref (a1 0), .ref (a2 0)])).length) Slot.unset).toArray = ls at hl ⊢
  have hl : lv_has ls 4 [(0, .ref (a 0)), (1, .ref (a1 0)), (2, .ref (a2 0))] := hl
  show W p l e RM_X0_settle s m (([.ref (a 0), .ref (a1 0), .ref (a2 0)] : List Value).toArray) below meth c s.heap [] 0 0 (MQ below (QI D A (fun (u : HC) => (kW cI a u ++ (kL cI a1 x1 ++ (kS cI a2 x2)))) r) (([.ref (a 0), .ref (a1 0), .ref (a2 0)] : List Value).toArray) s 0 0 A) (F0 m 0 ls [])
  refine lv_iconst (v := (0 : Int32)) hx hb dX0_settle_0 (by decide) ?_
  refine lv_istore_n (lv' := [(3, .int (0 : Int32)), (0, .ref (a 0)), (1, .ref (a1 0)), (2, .ref (a2 0))]) hx hb dX0_settle_1 rfl hl (by decide) rfl (fun ls hl => ?_)
  have L2 : ∀ (n : Nat) (v1 : Int32) (X2 : HC) (H : Heap) (locs : List Loc) (ls : Array Slot), va_P D vwCl (kW cI a X2 ++ (kL cI a1 x1 ++ (kS cI a2 x2))) H → va_D A (kW cI a X2 ++ (kL cI a1 x1 ++ (kS cI a2 x2))) → va_S A s.heap H locs → lv_has ls 4 [(0, .ref (a 0)), (1, .ref (a1 0)), (2, .ref (a2 0)), (3, .int v1)] → lp (fun _ _ => none : Int32 → HC → Option (Int32 × HC)) (f_X0_settle_b2 x1 x2) n v1 X2 = some r → W p l e RM_X0_settle s m (([.ref (a 0), .ref (a1 0), .ref (a2 0)] : List Value).toArray) below meth c H locs 0 0 (MQ below (QI D A (fun (u : HC) => (kW cI a u ++ (kL cI a1 x1 ++ (kS cI a2 x2)))) r) (([.ref (a 0), .ref (a1 0), .ref (a2 0)] : List Value).toArray) s 0 0 A) (F0 m 2 ls []) := by
    intro n
    induction n with
    | zero => intro v1 X2 H locs ls _ _ _ _ hf; cases (show (none : Option (Int32 × HC)) = some r from hf)
    | succ n ih2 =>
      intro v1 X2 H locs ls hP hD hS hl hf
      have hf : (f_X0_settle_b2 x1 x2) (lp (fun _ _ => none : Int32 → HC → Option (Int32 × HC)) (f_X0_settle_b2 x1 x2) n) v1 X2 = some r := hf
      generalize lp (fun _ _ => none : Int32 → HC → Option (Int32 × HC)) (f_X0_settle_b2 x1 x2) n = rc2 at ih2 hf
      unfold f_X0_settle_b2 at hf
      refine lv_iload_n hx hb dX0_settle_2 rfl (lv_at hl 3 rfl) ?_
      refine lv_iconst (v := (5 : Int32)) hx hb dX0_settle_3 (by decide) ?_
      refine lv_icmp_ge (tgt := 25) hx hb dX0_settle_4 (by decide) (fun cc4 => ?_) (fun cc4 => ?_)
      · have hf := if_t cc4 hf
        refine lv_iconst (v := (0 : Int32)) hx hb dX0_settle_25 (by decide) ?_
        refine lv_istore_n (lv' := [(3, .int (0 : Int32)), (0, .ref (a 0)), (1, .ref (a1 0)), (2, .ref (a2 0))]) hx hb dX0_settle_26 rfl hl (by decide) rfl (fun ls hl => ?_)
        have L27 : ∀ (n : Nat) (v3 : Int32) (X4 : HC) (H : Heap) (locs : List Loc) (ls : Array Slot), va_P D vwCl (kW cI a X4 ++ (kL cI a1 x1 ++ (kS cI a2 x2))) H → va_D A (kW cI a X4 ++ (kL cI a1 x1 ++ (kS cI a2 x2))) → va_S A s.heap H locs → lv_has ls 4 [(0, .ref (a 0)), (1, .ref (a1 0)), (2, .ref (a2 0)), (3, .int v3)] → lp (fun _ _ => none : Int32 → HC → Option (Int32 × HC)) (f_X0_settle_b27 x1 x2) n v3 X4 = some r → W p l e RM_X0_settle s m (([.ref (a 0), .ref (a1 0), .ref (a2 0)] : List Value).toArray) below meth c H locs 0 0 (MQ below (QI D A (fun (u : HC) => (kW cI a u ++ (kL cI a1 x1 ++ (kS cI a2 x2)))) r) (([.ref (a 0), .ref (a1 0), .ref (a2 0)] : List Value).toArray) s 0 0 A) (F0 m 27 ls []) := by
          intro n
          induction n with
          | zero => intro v3 X4 H locs ls _ _ _ _ hf; cases (show (none : Option (Int32 × HC)) = some r from hf)
          | succ n ih27 =>
            intro v3 X4 H locs ls hP hD hS hl hf
            have hf : (f_X0_settle_b27 x1 x2) (lp (fun _ _ => none : Int32 → HC → Option (Int32 × HC)) (f_X0_settle_b27 x1 x2) n) v3 X4 = some r := hf
            generalize lp (fun _ _ => none : Int32 → HC → Option (Int32 × HC)) (f_X0_settle_b27 x1 x2) n = rc27 at ih27 hf
            unfold f_X0_settle_b27 at hf
            refine lv_iload_n hx hb dX0_settle_27 rfl (lv_at hl 3 rfl) ?_
            refine lv_bipush (v := (20 : Int32)) hx hb dX0_settle_28 (by decide) ?_
            refine lv_icmp_ge (tgt := 50) hx hb dX0_settle_30 (by decide) (fun cc30 => ?_) (fun cc30 => ?_)
            · have hf := if_t cc30 hf
              refine lv_iconst (v := (-1 : Int32)) hx hb dX0_settle_50 (by decide) ?_
              exact W.iret (v := (-1 : Int32)) hx hb hr (fun t ht hW => ⟨⟨(-1 : Int32), X4, rfl, ⟨pr_1 hf, pr_2 hf⟩, by rw [ht]; exact hP, hD⟩, hS.F ht⟩) hS.2.2 dX0_settle_51
            · have hf := if_f cc30 hf
              refine lv_aload_n hx hb dX0_settle_33 rfl (lv_at hl 0 rfl) ?_
              refine lv_aload_n hx hb dX0_settle_34 rfl (lv_at hl 1 rfl) ?_
              refine lv_aload_n hx hb dX0_settle_35 rfl (lv_at hl 2 rfl) ?_
              obtain ⟨q5, hq5, hf⟩ := bd_x hf
              have hFc := freeS hD hS hA
              refine va_calli (va_runV (As := [.ref (a1 0), .ref (a2 0)]) (rest := []) ⟨hx, hb, hml, hown, hG⟩ (c_X0_roundChanges l D cI cZ a a1 a2 X4 x1 x2 H.size hq5) (cwV 2 hG (gV g_471 g_472 g_26 g_76 g_473) rfl rfl rfl (by decide +kernel) ⟨Nat.le_of_ble_eq_true rfl, Nat.le_of_ble_eq_true rfl⟩) ⟨pre_blind, va_recv hK hP (ci := 0) (q0 := 0) rfl rfl, fun U hU hW => ⟨rfl, pre_of hP hK hD hnw hU hW⟩⟩ rfl rfl hl.1 rfl (lv_room (Nat.le_of_ble_eq_true rfl)) dX0_settle_36 ⟨Nat.le_of_ble_eq_true rfl, Nat.le_of_ble_eq_true rfl⟩) hS (fun q _ h => hFc q h) hFc (fun v u t H locs ht hvm hw hB hz1 hk1 hS => ?_)
              obtain ⟨rfl, rfl⟩ := hw
              obtain ⟨hP1, hD1⟩ := hB
              rw [ht] at hP1
              have hP := hP1
              have hD := hD1.weaken (fun _ q _ h => hFc q.1 h)
              refine lv_if_ne (tgt := 44) hx hb dX0_settle_39 (by decide) (fun cc39 => ?_) (fun cc39 => ?_)
              · have hf := if_f cc39 hf
                obtain ⟨v6, ev6⟩ : ∃ y : Int32, y = (v3 + (1 : Int32)) := ⟨_, rfl⟩
                have hf := nm_x ev6 hf
                refine lv_iinc (v := v6) (lv' := [(3, .int v6), (0, .ref (a 0)), (1, .ref (a1 0)), (2, .ref (a2 0))]) hx hb dX0_settle_44 hl (k := 3) rfl (by rw [ev6]; rfl) (by decide) rfl (fun ls hl => ?_)
                refine lv_goto (tgt := 27) hx hb dX0_settle_47 (by decide) ?_
                exact ih27 v6 q5.2 _ _ _ hP hD hS (lv_sub hl [1, 2, 3, 0] rfl) hf
              · have hf := if_t cc39 hf
                refine lv_iload_n hx hb dX0_settle_42 rfl (lv_at hl 3 rfl) ?_
                exact W.iret (v := v3) hx hb hr (fun t ht hW => ⟨⟨v3, q5.2, rfl, ⟨pr_1 hf, pr_2 hf⟩, by rw [ht]; exact hP, hD⟩, hS.F ht⟩) hS.2.2 dX0_settle_43
        exact L27 FU (0 : Int32) X2 _ _ _ hP hD hS (lv_sub hl [1, 2, 3, 0] rfl) hf
      · have hf := if_f cc4 hf
        refine lv_aload_n hx hb dX0_settle_7 rfl (lv_at hl 0 rfl) ?_
        refine va_get (D := D) (ci := 0) (v := .ref (a 1)) (C := RX0) (T := TX0) (N := 2) hx hb hG inG0 hown hK hP 0 at_WLS_0_0 rfl 0 (by decide) (hG _ g_221) (fun _ h9 => h9) rfl dX0_settle_8 ?_
        refine lv_iload_n hx hb dX0_settle_11 rfl (lv_at hl 3 rfl) ?_
        refine lv_aload_n hx hb dX0_settle_12 rfl (lv_at hl 2 rfl) ?_
        refine va_get (D := D) (ci := 4) (v := .ref (a2 1)) (C := RX4) (T := TX4) (N := 7) hx hb hG inG4 hown hK hP 16 at_WLS_2_0 rfl 0 (by decide) (hG _ g_174) (fun _ h9 => h9) rfl dX0_settle_13 ?_
        refine lv_iload_n hx hb dX0_settle_16 rfl (lv_at hl 3 rfl) ?_
        obtain ⟨hb17, hf⟩ := gd hf
        refine va_iald (cA := cI) (n := 5) (f := x2 1) hx hb hK hP 17 0 at_WLS_2_1 rfl (inb_in hb17) dX0_settle_17 ?_
        obtain ⟨hb18, hf⟩ := gd hf
        refine va_iast (cA := cI) (n := 5) (f := X2 1) hx hb hK hP hD hS 1 0 at_WLS_0_1 rfl (inb_in hb18) dX0_settle_18 (fun H locs hP hD hS => ?_)
        obtain ⟨X7, eX7⟩ : ∃ y : HC, y = (sa X2 1 v1 (x2 1 (Int32.toNatClampNeg v1))) := ⟨_, rfl⟩
        have hf := nm_x eX7 hf
        have hP := wP (sa_WLS_0_1.trans (congrArg (fun z : HC => (kW cI a z ++ (kL cI a1 x1 ++ (kS cI a2 x2)))) eX7.symm)) hP
        have hD := wD (sa_WLS_0_1.trans (congrArg (fun z : HC => (kW cI a z ++ (kL cI a1 x1 ++ (kS cI a2 x2)))) eX7.symm)) hD
        obtain ⟨v8, ev8⟩ : ∃ y : Int32, y = (v1 + (1 : Int32)) := ⟨_, rfl⟩
        have hf := nm_x ev8 hf
        refine lv_iinc (v := v8) (lv' := [(3, .int v8), (0, .ref (a 0)), (1, .ref (a1 0)), (2, .ref (a2 0))]) hx hb dX0_settle_19 hl (k := 3) rfl (by rw [ev8]; rfl) (by decide) rfl (fun ls hl => ?_)
        refine lv_goto (tgt := 2) hx hb dX0_settle_22 (by decide) ?_
        exact ih2 v8 X7 _ _ _ hP hD hS (lv_sub hl [1, 2, 3, 0] rfl) hf
  exact L2 FU (0 : Int32) x _ _ _ hP hD hS (lv_sub hl [1, 2, 3, 0] rfl) hf
def f_X1_enter (x : HC) (p1 : Int32) (p2 : Int32) : Option (Int32 × HC) := (if (x 0 2) < (15 : Int32) then (if inb (x 0 2) 15 then nm (sa x 1 (x 0 2) p1) (fun (X1 : HC) => (if inb (X1 0 2) 15 then nm (sa X1 2 (X1 0 2) p2) (fun (X2 : HC) => nm (sf X2 2 ((X2 0 2) + (1 : Int32))) (fun (X3 : HC) => some ((X3 0 2), X3))) else none)) else none) else some ((-1000000004 : Int32), x))
abbrev RM_X1_enter : Room := { frames := 0, cells := 0, slots := 0, locals := 0 }
set_option maxHeartbeats 4000000 in
set_option maxRecDepth 100000 in
theorem c_X1_enter (l : Launch) (D : va_G) (cI cZ : ClassId) (a : Nat → Nat) (x : HC) (p1 : Int32) (p2 : Int32) (sz : Nat) {r : Int32 × HC} (hf : f_X1_enter x p1 p2 = some r) : Met l yX1_enter (wM yX1_enter cX1_enter 3 (some .int)) RM_X1_enter (va_Pc [.ref (a 0), .int p1, .int p2] (pre D cI cZ (kB cI a x) sz)) (QI D (va_A (kB cI a x) sz) (fun (u : HC) => (kB cI a u)) r) 0 0 (va_A (kB cI a x) sz) := by
  unfold f_X1_enter at hf
  refine Met.ofW (cc := cX1_enter) (maxL := 3) (ret := (some .int)) (by decide) rfl ?_
  intro p e s m args below meth c s₁ B hml hv
  obtain ⟨rfl, hsz, hP, hK, hD0, hnw⟩ := hv
  have hx := B.exec
  have hb := B.bytes
  have hr := B.returns
  have hts := atoms_spec (ws := wM yX1_enter cX1_enter 3 (some .int)) B.pre
  have hG : ∀ w ∈ GW, w.before (([.ref (a 0), .int p1, .int p2] : List Value).toArray) s = true := fun w h => hts w (List.mem_cons_of_mem _ h)
  have hown : s.vm.findClass RX1 = some m.cls := findClass_of_methodNamed B.named
  have hlocks := B.notSynchronized
  subst hsz
  have hD := hD0.self (sz := s.heap.size)
  generalize hAe : va_A (kB cI a x) s.heap.size = A at hD ⊢
  have hA : ∀ q : Nat, s.heap.size ≤ q → A q := fun q h => by rw [← hAe]; exact Or.inr h
  have hS : va_S A s.heap s.heap [] := va_S.rf
  have hl := lv_entry ([.ref (a 0), .int p1, .int p2]) (n := 3) (Nat.le_of_ble_eq_true rfl)
  rw [lg_entry_eq]
  generalize (lg_sl ([.ref (a 0), .int p1, .int p2]) ++ List.replicate (3 - (lg_sl ([.ref (a 0), .int p1, .int p2])).length) Slot.unset).toArray = ls at hl ⊢
  have hl : lv_has ls 3 [(0, .ref (a 0)), (1, .int p1), (2, .int p2)] := hl
  show W p l e RM_X1_enter s m (([.ref (a 0), .int p1, .int p2] : List Value).toArray) below meth c s.heap [] 0 0 (MQ below (QI D A (fun (u : HC) => (kB cI a u)) r) (([.ref (a 0), .int p1, .int p2] : List Value).toArray) s 0 0 A) (F0 m 0 ls [])
  refine lv_aload_n hx hb dX1_enter_0 rfl (lv_at hl 0 rfl) ?_
  refine va_get (D := D) (ci := 1) (v := .int (x 0 2)) (C := RX1) (T := TX1) (N := 3) hx hb hG inG1 hown hK hP 0 at_B_0_0 rfl 2 (by decide) (hG _ g_200) (fun _ h9 => h9) rfl dX1_enter_1 ?_
  refine lv_bipush (v := (15 : Int32)) hx hb dX1_enter_4 (by decide) ?_
  refine lv_icmp_lt (tgt := 12) hx hb dX1_enter_6 (by decide) (fun cc6 => ?_) (fun cc6 => ?_)
  · have hf := if_t cc6 hf
    refine lv_aload_n hx hb dX1_enter_12 rfl (lv_at hl 0 rfl) ?_
    refine va_get (D := D) (ci := 1) (v := .ref (a 1)) (C := RX1) (T := TX1) (N := 3) hx hb hG inG1 hown hK hP 0 at_B_0_0 rfl 0 (by decide) (hG _ g_198) (fun _ h9 => h9) rfl dX1_enter_13 ?_
    refine lv_aload_n hx hb dX1_enter_16 rfl (lv_at hl 0 rfl) ?_
    refine va_get (D := D) (ci := 1) (v := .int (x 0 2)) (C := RX1) (T := TX1) (N := 3) hx hb hG inG1 hown hK hP 0 at_B_0_0 rfl 2 (by decide) (hG _ g_200) (fun _ h9 => h9) rfl dX1_enter_17 ?_
    refine lv_iload_n hx hb dX1_enter_20 rfl (lv_at hl 1 rfl) ?_
    obtain ⟨hb21, hf⟩ := gd hf
    refine va_iast (cA := cI) (n := 15) (f := x 1) hx hb hK hP hD hS 1 0 at_B_0_1 rfl (inb_in hb21) dX1_enter_21 (fun H locs hP hD hS => ?_)
    obtain ⟨X1, eX1⟩ : ∃ y : HC, y = (sa x 1 (x 0 2) p1) := ⟨_, rfl⟩
    have hf := nm_x eX1 hf
    have hP := wP (sa_B_0_1.trans (congrArg (fun z : HC => (kB cI a z)) eX1.symm)) hP
    have hD := wD (sa_B_0_1.trans (congrArg (fun z : HC => (kB cI a z)) eX1.symm)) hD
    refine lv_aload_n hx hb dX1_enter_22 rfl (lv_at hl 0 rfl) ?_
    refine va_get (D := D) (ci := 1) (v := .ref (a 2)) (C := RX1) (T := TX1) (N := 3) hx hb hG inG1 hown hK hP 0 at_B_0_0 rfl 1 (by decide) (hG _ g_199) (fun _ h9 => h9) rfl dX1_enter_23 ?_
    refine lv_aload_n hx hb dX1_enter_26 rfl (lv_at hl 0 rfl) ?_
    refine va_get (D := D) (ci := 1) (v := .int (X1 0 2)) (C := RX1) (T := TX1) (N := 3) hx hb hG inG1 hown hK hP 0 at_B_0_0 rfl 2 (by decide) (hG _ g_200) (fun _ h9 => h9) rfl dX1_enter_27 ?_
    refine lv_iload_n hx hb dX1_enter_30 rfl (lv_at hl 2 rfl) ?_
    obtain ⟨hb31, hf⟩ := gd hf
    refine va_iast (cA := cI) (n := 15) (f := X1 2) hx hb hK hP hD hS 2 0 at_B_0_2 rfl (inb_in hb31) dX1_enter_31 (fun H locs hP hD hS => ?_)
    obtain ⟨X2, eX2⟩ : ∃ y : HC, y = (sa X1 2 (X1 0 2) p2) := ⟨_, rfl⟩
    have hf := nm_x eX2 hf
    have hP := wP (sa_B_0_2.trans (congrArg (fun z : HC => (kB cI a z)) eX2.symm)) hP
    have hD := wD (sa_B_0_2.trans (congrArg (fun z : HC => (kB cI a z)) eX2.symm)) hD
    refine lv_aload_n hx hb dX1_enter_32 rfl (lv_at hl 0 rfl) ?_
    refine lv_dup hx hb dX1_enter_33 rfl ?_
    refine va_get (D := D) (ci := 1) (v := .int (X2 0 2)) (C := RX1) (T := TX1) (N := 3) hx hb hG inG1 hown hK hP 0 at_B_0_0 rfl 2 (by decide) (hG _ g_200) (fun _ h9 => h9) rfl dX1_enter_34 ?_
    refine lv_iconst (v := (1 : Int32)) hx hb dX1_enter_37 (by decide) ?_
    refine lv_iadd hx hb dX1_enter_38 ?_
    refine va_put (D := D) (ci := 1) (v := .int ((X2 0 2) + (1 : Int32))) (ty := .int) (C := RX1) (T := TX1) (N := 3) hx hb hG inG1 tyX1 tyX1_ok nmX1 hown hK hP hD hS 0 at_B_0_0 rfl 2 (by decide) (hG _ g_200) (fun _ h9 => h9) rfl (by decide +kernel) rfl rfl (Nat.le_of_ble_eq_true rfl) dX1_enter_39 (fun H locs hP hD hS => ?_)
    obtain ⟨X3, eX3⟩ : ∃ y : HC, y = (sf X2 2 ((X2 0 2) + (1 : Int32))) := ⟨_, rfl⟩
    have hf := nm_x eX3 hf
    have hP := wP (sf_B_0_2.trans (congrArg (fun z : HC => (kB cI a z)) eX3.symm)) hP
    have hD := wD (sf_B_0_2.trans (congrArg (fun z : HC => (kB cI a z)) eX3.symm)) hD
    refine lv_aload_n hx hb dX1_enter_42 rfl (lv_at hl 0 rfl) ?_
    refine va_get (D := D) (ci := 1) (v := .int (X3 0 2)) (C := RX1) (T := TX1) (N := 3) hx hb hG inG1 hown hK hP 0 at_B_0_0 rfl 2 (by decide) (hG _ g_200) (fun _ h9 => h9) rfl dX1_enter_43 ?_
    exact W.iret (v := (X3 0 2)) hx hb hr (fun t ht hW => ⟨⟨(X3 0 2), X3, rfl, ⟨pr_1 hf, pr_2 hf⟩, by rw [ht]; exact hP, hD⟩, hS.F ht⟩) hS.2.2 dX1_enter_46
  · have hf := if_f cc6 hf
    refine lv_ldc hx hb hown (hG _ g_529) dX1_enter_9 ?_
    exact W.iret (v := (-1000000004 : Int32)) hx hb hr (fun t ht hW => ⟨⟨(-1000000004 : Int32), x, rfl, ⟨pr_1 hf, pr_2 hf⟩, by rw [ht]; exact hP, hD⟩, hS.F ht⟩) hS.2.2 dX1_enter_11
def f_X1_firstWrong_b2 (x : HC) (x1 : HC) (rc2 : Int32 → Option (Int32)) (v1 : Int32) : Option (Int32) := (if (x 0 2) ≤ v1 then some (-1 : Int32) else (if inb v1 15 then (if inb (x 1 (Int32.toNatClampNeg v1)) 30 then (if inb v1 15 then (if (x1 4 (Int32.toNatClampNeg (x 1 (Int32.toNatClampNeg v1)))) = (x 2 (Int32.toNatClampNeg v1)) then nm (v1 + (1 : Int32)) (fun (v2 : Int32) => rc2 v2) else some v1) else none) else none) else none))
def f_X1_firstWrong (x : HC) (x1 : HC) : Option (Int32) := lp (fun _ => none : Int32 → Option (Int32)) (f_X1_firstWrong_b2 x x1) FU (0 : Int32)
abbrev RM_X1_firstWrong : Room := { frames := 0, cells := 0, slots := 0, locals := 0 }
set_option maxHeartbeats 4000000 in
set_option maxRecDepth 100000 in
theorem c_X1_firstWrong (l : Launch) (D : va_G) (cI cZ : ClassId) (a a1 : Nat → Nat) (x : HC) (x1 : HC) (sz : Nat) {r : Int32} (hf : f_X1_firstWrong x x1 = some r) : Met l yX1_firstWrong (wM yX1_firstWrong cX1_firstWrong 3 (some .int)) RM_X1_firstWrong (va_Pc [.ref (a 0), .ref (a1 0)] (pre D cI cZ (kB cI a x ++ (kS cI a1 x1)) sz)) (QI0 D (va_A (kB cI a x ++ (kS cI a1 x1)) sz) (kB cI a x ++ (kS cI a1 x1)) r) 0 0 (va_A (kB cI a x ++ (kS cI a1 x1)) sz) := by
  unfold f_X1_firstWrong at hf
  refine Met.ofW (cc := cX1_firstWrong) (maxL := 3) (ret := (some .int)) (by decide) rfl ?_
  intro p e s m args below meth c s₁ B hml hv
  obtain ⟨rfl, hsz, hP, hK, hD0, hnw⟩ := hv
  have hx := B.exec
  have hb := B.bytes
  have hr := B.returns
  have hts := atoms_spec (ws := wM yX1_firstWrong cX1_firstWrong 3 (some .int)) B.pre
  have hG : ∀ w ∈ GW, w.before (([.ref (a 0), .ref (a1 0)] : List Value).toArray) s = true := fun w h => hts w (List.mem_cons_of_mem _ h)
  have hown : s.vm.findClass RX1 = some m.cls := findClass_of_methodNamed B.named
  have hlocks := B.notSynchronized
  subst hsz
  have hD := hD0.self (sz := s.heap.size)
  generalize hAe : va_A (kB cI a x ++ (kS cI a1 x1)) s.heap.size = A at hD ⊢
  have hA : ∀ q : Nat, s.heap.size ≤ q → A q := fun q h => by rw [← hAe]; exact Or.inr h
  have hS : va_S A s.heap s.heap [] := va_S.rf
  have hl := lv_entry ([.ref (a 0), .ref (a1 0)]) (n := 3) (Nat.le_of_ble_eq_true rfl)
  rw [lg_entry_eq]
  generalize (lg_sl ([.ref (a 0), .ref (a1 0)]) ++ List.replicate (3 - (lg_sl ([.ref (a 0), .ref (a1 0)])).length) Slot.unset).toArray = ls at hl ⊢
  have hl : lv_has ls 3 [(0, .ref (a 0)), (1, .ref (a1 0))] := hl
  show W p l e RM_X1_firstWrong s m (([.ref (a 0), .ref (a1 0)] : List Value).toArray) below meth c s.heap [] 0 0 (MQ below (QI0 D A (kB cI a x ++ (kS cI a1 x1)) r) (([.ref (a 0), .ref (a1 0)] : List Value).toArray) s 0 0 A) (F0 m 0 ls [])
  refine lv_iconst (v := (0 : Int32)) hx hb dX1_firstWrong_0 (by decide) ?_
  refine lv_istore_n (lv' := [(2, .int (0 : Int32)), (0, .ref (a 0)), (1, .ref (a1 0))]) hx hb dX1_firstWrong_1 rfl hl (by decide) rfl (fun ls hl => ?_)
  have L2 : ∀ (n : Nat) (v1 : Int32) (H : Heap) (locs : List Loc) (ls : Array Slot), va_P D vwCl (kB cI a x ++ (kS cI a1 x1)) H → va_D A (kB cI a x ++ (kS cI a1 x1)) → va_S A s.heap H locs → lv_has ls 3 [(0, .ref (a 0)), (1, .ref (a1 0)), (2, .int v1)] → lp (fun _ => none : Int32 → Option (Int32)) (f_X1_firstWrong_b2 x x1) n v1 = some r → W p l e RM_X1_firstWrong s m (([.ref (a 0), .ref (a1 0)] : List Value).toArray) below meth c H locs 0 0 (MQ below (QI0 D A (kB cI a x ++ (kS cI a1 x1)) r) (([.ref (a 0), .ref (a1 0)] : List Value).toArray) s 0 0 A) (F0 m 2 ls []) := by
    intro n
    induction n with
    | zero => intro v1 H locs ls _ _ _ _ hf; cases (show (none : Option (Int32)) = some r from hf)
    | succ n ih2 =>
      intro v1 H locs ls hP hD hS hl hf
      have hf : (f_X1_firstWrong_b2 x x1) (lp (fun _ => none : Int32 → Option (Int32)) (f_X1_firstWrong_b2 x x1) n) v1 = some r := hf
      generalize lp (fun _ => none : Int32 → Option (Int32)) (f_X1_firstWrong_b2 x x1) n = rc2 at ih2 hf
      unfold f_X1_firstWrong_b2 at hf
      refine lv_iload_n hx hb dX1_firstWrong_2 rfl (lv_at hl 2 rfl) ?_
      refine lv_aload_n hx hb dX1_firstWrong_3 rfl (lv_at hl 0 rfl) ?_
      refine va_get (D := D) (ci := 1) (v := .int (x 0 2)) (C := RX1) (T := TX1) (N := 3) hx hb hG inG1 hown hK hP 0 at_BS_0_0 rfl 2 (by decide) (hG _ g_200) (fun _ h9 => h9) rfl dX1_firstWrong_4 ?_
      refine lv_icmp_ge (tgt := 38) hx hb dX1_firstWrong_7 (by decide) (fun cc7 => ?_) (fun cc7 => ?_)
      · have hf := if_t cc7 hf
        refine lv_iconst (v := (-1 : Int32)) hx hb dX1_firstWrong_38 (by decide) ?_
        exact W.iret (v := (-1 : Int32)) hx hb hr (fun t ht hW => ⟨⟨(-1 : Int32), (), rfl, Option.some.inj hf, by rw [ht]; exact hP, hD⟩, hS.F ht⟩) hS.2.2 dX1_firstWrong_39
      · have hf := if_f cc7 hf
        refine lv_aload_n hx hb dX1_firstWrong_10 rfl (lv_at hl 1 rfl) ?_
        refine va_get (D := D) (ci := 4) (v := .ref (a1 4)) (C := RX4) (T := TX4) (N := 7) hx hb hG inG4 hown hK hP 3 at_BS_1_0 rfl 3 (by decide) (hG _ g_183) (fun _ h9 => h9) rfl dX1_firstWrong_11 ?_
        refine lv_aload_n hx hb dX1_firstWrong_14 rfl (lv_at hl 0 rfl) ?_
        refine va_get (D := D) (ci := 1) (v := .ref (a 1)) (C := RX1) (T := TX1) (N := 3) hx hb hG inG1 hown hK hP 0 at_BS_0_0 rfl 0 (by decide) (hG _ g_198) (fun _ h9 => h9) rfl dX1_firstWrong_15 ?_
        refine lv_iload_n hx hb dX1_firstWrong_18 rfl (lv_at hl 2 rfl) ?_
        obtain ⟨hb19, hf⟩ := gd hf
        refine va_iald (cA := cI) (n := 15) (f := x 1) hx hb hK hP 1 0 at_BS_0_1 rfl (inb_in hb19) dX1_firstWrong_19 ?_
        obtain ⟨hb20, hf⟩ := gd hf
        refine va_iald (cA := cI) (n := 30) (f := x1 4) hx hb hK hP 7 0 at_BS_1_4 rfl (inb_in hb20) dX1_firstWrong_20 ?_
        refine lv_aload_n hx hb dX1_firstWrong_21 rfl (lv_at hl 0 rfl) ?_
        refine va_get (D := D) (ci := 1) (v := .ref (a 2)) (C := RX1) (T := TX1) (N := 3) hx hb hG inG1 hown hK hP 0 at_BS_0_0 rfl 1 (by decide) (hG _ g_199) (fun _ h9 => h9) rfl dX1_firstWrong_22 ?_
        refine lv_iload_n hx hb dX1_firstWrong_25 rfl (lv_at hl 2 rfl) ?_
        obtain ⟨hb26, hf⟩ := gd hf
        refine va_iald (cA := cI) (n := 15) (f := x 2) hx hb hK hP 2 0 at_BS_0_2 rfl (inb_in hb26) dX1_firstWrong_26 ?_
        refine lv_icmp_eq (tgt := 32) hx hb dX1_firstWrong_27 (by decide) (fun cc27 => ?_) (fun cc27 => ?_)
        · have hf := if_t cc27 hf
          obtain ⟨v2, ev2⟩ : ∃ y : Int32, y = (v1 + (1 : Int32)) := ⟨_, rfl⟩
          have hf := nm_x ev2 hf
          refine lv_iinc (v := v2) (lv' := [(2, .int v2), (0, .ref (a 0)), (1, .ref (a1 0))]) hx hb dX1_firstWrong_32 hl (k := 2) rfl (by rw [ev2]; rfl) (by decide) rfl (fun ls hl => ?_)
          refine lv_goto (tgt := 2) hx hb dX1_firstWrong_35 (by decide) ?_
          exact ih2 v2 _ _ _ hP hD hS (lv_sub hl [1, 2, 0] rfl) hf
        · have hf := if_f cc27 hf
          refine lv_iload_n hx hb dX1_firstWrong_30 rfl (lv_at hl 2 rfl) ?_
          exact W.iret (v := v1) hx hb hr (fun t ht hW => ⟨⟨v1, (), rfl, Option.some.inj hf, by rw [ht]; exact hP, hD⟩, hS.F ht⟩) hS.2.2 dX1_firstWrong_31
  exact L2 FU (0 : Int32) _ _ _ hP hD hS (lv_sub hl [1, 2, 0] rfl) hf
def f_X3_leastSet_j34 (rc3 : Int32 → Option (Int32)) (v1 : Int32)  : Option (Int32) := nm (v1 + (1 : Int32)) (fun (v2 : Int32) => rc3 v2)
def f_X3_leastSet_b3 (x : HC) (p1 : Int32) (p2 : Int32) (p3 : Int32) (p4 : Int32) (rc3 : Int32 → Option (Int32)) (v1 : Int32) : Option (Int32) := (if p3 < v1 then some (-1 : Int32) else (if (v1 &&& (p3 ^^^ (-1 : Int32))) = 0 then bd (f_X2_passes x p1 p2 v1 p4) (fun (q3 : Int32) => (if q3 = 0 then f_X3_leastSet_j34 rc3 v1 else some v1)) else f_X3_leastSet_j34 rc3 v1))
def f_X3_leastSet (x : HC) (p1 : Int32) (p2 : Int32) (p3 : Int32) (p4 : Int32) : Option (Int32) := lp (fun _ => none : Int32 → Option (Int32)) (f_X3_leastSet_b3 x p1 p2 p3 p4) FU (0 : Int32)
abbrev RM_X3_leastSet : Room := { frames := 3, cells := 0, slots := 0, locals := 70 }
set_option maxHeartbeats 4000000 in
set_option maxRecDepth 100000 in
theorem c_X3_leastSet (l : Launch) (D : va_G) (cI cZ : ClassId) (a : Nat → Nat) (x : HC) (p1 : Int32) (p2 : Int32) (p3 : Int32) (p4 : Int32) (sz : Nat) {r : Int32} (hf : f_X3_leastSet x p1 p2 p3 p4 = some r) : Met l yX3_leastSet (wM yX3_leastSet cX3_leastSet 6 (some .int)) RM_X3_leastSet (va_Pc [.ref (a 0), .int p1, .int p2, .int p3, .int p4] (pre D cI cZ (kL cI a x) sz)) (QI0 D (va_A (kL cI a x) sz) (kL cI a x) r) 0 0 (va_A (kL cI a x) sz) := by
  unfold f_X3_leastSet at hf
  refine Met.ofW (cc := cX3_leastSet) (maxL := 6) (ret := (some .int)) (by decide) rfl ?_
  intro p e s m args below meth c s₁ B hml hv
  obtain ⟨rfl, hsz, hP, hK, hD0, hnw⟩ := hv
  have hx := B.exec
  have hb := B.bytes
  have hr := B.returns
  have hts := atoms_spec (ws := wM yX3_leastSet cX3_leastSet 6 (some .int)) B.pre
  have hG : ∀ w ∈ GW, w.before (([.ref (a 0), .int p1, .int p2, .int p3, .int p4] : List Value).toArray) s = true := fun w h => hts w (List.mem_cons_of_mem _ h)
  have hown : s.vm.findClass RX3 = some m.cls := findClass_of_methodNamed B.named
  have hlocks := B.notSynchronized
  subst hsz
  have hD := hD0.self (sz := s.heap.size)
  generalize hAe : va_A (kL cI a x) s.heap.size = A at hD ⊢
  have hA : ∀ q : Nat, s.heap.size ≤ q → A q := fun q h => by rw [← hAe]; exact Or.inr h
  have hS : va_S A s.heap s.heap [] := va_S.rf
  have hl := lv_entry ([.ref (a 0), .int p1, .int p2, .int p3, .int p4]) (n := 6) (Nat.le_of_ble_eq_true rfl)
  rw [lg_entry_eq]
  generalize (lg_sl ([.ref (a 0), .int p1, .int p2, .int p3, .int p4]) ++ List.replicate (6 - (lg_sl ([.ref (a 0), .int p1, .int p2, .int p3, .int p4])).length) Slot.unset).toArray = ls at hl ⊢
  have hl : lv_has ls 6 [(0, .ref (a 0)), (1, .int p1), (2, .int p2), (3, .int p3), (4, .int p4)] := hl
  show W p l e RM_X3_leastSet s m (([.ref (a 0), .int p1, .int p2, .int p3, .int p4] : List Value).toArray) below meth c s.heap [] 0 0 (MQ below (QI0 D A (kL cI a x) r) (([.ref (a 0), .int p1, .int p2, .int p3, .int p4] : List Value).toArray) s 0 0 A) (F0 m 0 ls [])
  refine lv_iconst (v := (0 : Int32)) hx hb dX3_leastSet_0 (by decide) ?_
  refine lv_istore (lv' := [(5, .int (0 : Int32)), (0, .ref (a 0)), (1, .int p1), (2, .int p2), (3, .int p3), (4, .int p4)]) hx hb dX3_leastSet_1 hl (by decide) rfl (fun ls hl => ?_)
  have L3 : ∀ (n : Nat) (v1 : Int32) (H : Heap) (locs : List Loc) (ls : Array Slot), va_P D vwCl (kL cI a x) H → va_D A (kL cI a x) → va_S A s.heap H locs → lv_has ls 6 [(0, .ref (a 0)), (1, .int p1), (2, .int p2), (3, .int p3), (4, .int p4), (5, .int v1)] → lp (fun _ => none : Int32 → Option (Int32)) (f_X3_leastSet_b3 x p1 p2 p3 p4) n v1 = some r → W p l e RM_X3_leastSet s m (([.ref (a 0), .int p1, .int p2, .int p3, .int p4] : List Value).toArray) below meth c H locs 0 0 (MQ below (QI0 D A (kL cI a x) r) (([.ref (a 0), .int p1, .int p2, .int p3, .int p4] : List Value).toArray) s 0 0 A) (F0 m 3 ls []) := by
    intro n
    induction n with
    | zero => intro v1 H locs ls _ _ _ _ hf; cases (show (none : Option (Int32)) = some r from hf)
    | succ n ih3 =>
      intro v1 H locs ls hP hD hS hl hf
      have hf : (f_X3_leastSet_b3 x p1 p2 p3 p4) (lp (fun _ => none : Int32 → Option (Int32)) (f_X3_leastSet_b3 x p1 p2 p3 p4) n) v1 = some r := hf
      generalize lp (fun _ => none : Int32 → Option (Int32)) (f_X3_leastSet_b3 x p1 p2 p3 p4) n = rc3 at ih3 hf
      unfold f_X3_leastSet_b3 at hf
      refine lv_iload hx hb dX3_leastSet_3 (lv_at hl 5 rfl) ?_
      refine lv_iload_n hx hb dX3_leastSet_5 rfl (lv_at hl 3 rfl) ?_
      refine lv_icmp_gt (tgt := 40) hx hb dX3_leastSet_6 (by decide) (fun cc6 => ?_) (fun cc6 => ?_)
      · have hf := if_t cc6 hf
        refine lv_iconst (v := (-1 : Int32)) hx hb dX3_leastSet_40 (by decide) ?_
        exact W.iret (v := (-1 : Int32)) hx hb hr (fun t ht hW => ⟨⟨(-1 : Int32), (), rfl, Option.some.inj hf, by rw [ht]; exact hP, hD⟩, hS.F ht⟩) hS.2.2 dX3_leastSet_41
      · have hf := if_f cc6 hf
        refine lv_iload hx hb dX3_leastSet_9 (lv_at hl 5 rfl) ?_
        refine lv_iload_n hx hb dX3_leastSet_11 rfl (lv_at hl 3 rfl) ?_
        refine lv_iconst (v := (-1 : Int32)) hx hb dX3_leastSet_12 (by decide) ?_
        refine lv_ixor hx hb dX3_leastSet_13 ?_
        refine lv_iand hx hb dX3_leastSet_14 ?_
        have J34 : ∀  (H : Heap) (locs : List Loc) (ls : Array Slot), va_P D vwCl (kL cI a x) H → va_D A (kL cI a x) → va_S A s.heap H locs → lv_has ls 6 [(0, .ref (a 0)), (1, .int p1), (2, .int p2), (3, .int p3), (4, .int p4), (5, .int v1)] → f_X3_leastSet_j34 rc3 v1  = some r → W p l e RM_X3_leastSet s m (([.ref (a 0), .int p1, .int p2, .int p3, .int p4] : List Value).toArray) below meth c H locs 0 0 (MQ below (QI0 D A (kL cI a x) r) (([.ref (a 0), .int p1, .int p2, .int p3, .int p4] : List Value).toArray) s 0 0 A) (F0 m 34 ls []) := by
          intro  H locs ls hP hD hS hl hf
          unfold f_X3_leastSet_j34 at hf
          obtain ⟨v2, ev2⟩ : ∃ y : Int32, y = (v1 + (1 : Int32)) := ⟨_, rfl⟩
          have hf := nm_x ev2 hf
          refine lv_iinc (v := v2) (lv' := [(5, .int v2), (0, .ref (a 0)), (1, .int p1), (2, .int p2), (3, .int p3), (4, .int p4)]) hx hb dX3_leastSet_34 hl (k := 5) rfl (by rw [ev2]; rfl) (by decide) rfl (fun ls hl => ?_)
          refine lv_goto (tgt := 3) hx hb dX3_leastSet_37 (by decide) ?_
          exact ih3 v2 _ _ _ hP hD hS (lv_sub hl [1, 2, 3, 4, 5, 0] rfl) hf
        refine lv_if_ne (tgt := 34) hx hb dX3_leastSet_15 (by decide) (fun cc15 => ?_) (fun cc15 => ?_)
        · have hf := if_f cc15 hf
          exact J34  _ _ _ hP hD hS (lv_sub hl [0, 1, 2, 3, 4, 5] rfl) hf
        · have hf := if_t cc15 hf
          refine lv_aload_n hx hb dX3_leastSet_18 rfl (lv_at hl 0 rfl) ?_
          refine lv_iload_n hx hb dX3_leastSet_19 rfl (lv_at hl 1 rfl) ?_
          refine lv_iload_n hx hb dX3_leastSet_20 rfl (lv_at hl 2 rfl) ?_
          refine lv_iload hx hb dX3_leastSet_21 (lv_at hl 5 rfl) ?_
          refine lv_iload hx hb dX3_leastSet_23 (lv_at hl 4 rfl) ?_
          obtain ⟨q3, hq3, hf⟩ := bd_x hf
          have hFc := freeS hD hS hA
          refine va_calli (va_runV (As := [.int p1, .int p2, .int v1, .int p4]) (rest := []) ⟨hx, hb, hml, hown, hG⟩ (c_X2_passes l D cI cZ a x p1 p2 v1 p4 H.size hq3) (cwV 4 hG (gV g_454 g_404 g_405 g_72 g_406) rfl rfl rfl (by decide +kernel) ⟨Nat.le_of_ble_eq_true rfl, Nat.le_of_ble_eq_true rfl⟩) ⟨pre_blind, va_recv hK hP (ci := 2) (q0 := 0) rfl rfl, fun U hU hW => ⟨rfl, pre_of hP hK hD hnw hU hW⟩⟩ rfl rfl hl.1 rfl (lv_room (Nat.le_of_ble_eq_true rfl)) dX3_leastSet_25 ⟨Nat.le_of_ble_eq_true rfl, Nat.le_of_ble_eq_true rfl⟩) hS (fun q _ h => hFc q h) hFc (fun v u t H locs ht hvm hw hB hz1 hk1 hS => ?_)
          have hw := hw.symm; subst hw
          obtain ⟨hP1, hD1⟩ := hB
          rw [ht] at hP1
          have hP := hP1
          have hD := hD1.weaken (fun _ q _ h => hFc q.1 h)
          refine lv_if_eq (tgt := 34) hx hb dX3_leastSet_28 (by decide) (fun cc28 => ?_) (fun cc28 => ?_)
          · have hf := if_t cc28 hf
            exact J34  _ _ _ hP hD hS (lv_sub hl [0, 1, 2, 3, 4, 5] rfl) hf
          · have hf := if_f cc28 hf
            refine lv_iload hx hb dX3_leastSet_31 (lv_at hl 5 rfl) ?_
            exact W.iret (v := v1) hx hb hr (fun t ht hW => ⟨⟨v1, (), rfl, Option.some.inj hf, by rw [ht]; exact hP, hD⟩, hS.F ht⟩) hS.2.2 dX3_leastSet_33
  exact L3 FU (0 : Int32) _ _ _ hP hD hS (lv_sub hl [1, 2, 3, 4, 5, 0] rfl) hf
def f_X3_step_j152 (rc26 : Int32 → Option (HC)) (v3 : Int32)  : Option (HC) := nm (v3 + (1 : Int32)) (fun (v5 : Int32) => rc26 v5)
def f_X3_step_b26 (x : HC) (x1 : HC) (x2 : HC) (p1 : Int32) (v1 : Int32) (q2 : Int32) (rc26 : Int32 → Option (HC)) (v3 : Int32) : Option (HC) := (if (x1 0 3) ≤ v3 then some x else bd (f_X6_has v1 v3) (fun (q4 : Int32) => (if q4 = 0 then (if inb v3 6 then bd (f_X6_slot (x1 5 (Int32.toNatClampNeg v3)) p1) (fun (q6 : Int32) => (if inb q6 30 then nm (if ((x2 4 (Int32.toNatClampNeg q6)) + q2) < (99 : Int32) then ((x2 4 (Int32.toNatClampNeg q6)) + q2) else (99 : Int32)) (fun (v7 : Int32) => bd (f_X2_tricksOf x1 v3) (fun (q8 : Int32) => (if inb p1 5 then bd (f_X3_leastSet x1 p1 v3 (q8 &&& ((x2 3 (Int32.toNatClampNeg p1)) ^^^ (-1 : Int32))) v7) (fun (q9 : Int32) => (if q9 = (-1 : Int32) then f_X3_step_j152 rc26 v3 else (if inb (x 0 2) 6 then nm (sa x 1 (x 0 2) v3) (fun (X10 : HC) => (if inb (X10 0 2) 6 then nm (sa X10 2 (X10 0 2) q9) (fun (X11 : HC) => nm (sf X11 2 ((X11 0 2) + (1 : Int32))) (fun (X12 : HC) => nm (sf X12 3 ((X12 0 3) ||| ((1 : Int32) <<< (v3 &&& 31)))) (fun (X13 : HC) => some X13))) else none)) else none))) else none))) else none)) else none) else f_X3_step_j152 rc26 v3)))
def f_X3_step (x : HC) (x1 : HC) (x2 : HC) (p1 : Int32) : Option (HC) := (if inb p1 5 then nm ((x 0 3) ||| (x2 2 (Int32.toNatClampNeg p1))) (fun (v1 : Int32) => bd (f_X2_fameOf x1 (x 0 3)) (fun (q2 : Int32) => lp (fun _ => none : Int32 → Option (HC)) (f_X3_step_b26 x x1 x2 p1 v1 q2) FU (0 : Int32))) else none)
abbrev RM_X3_step : Room := { frames := 4, cells := 0, slots := 0, locals := 95 }
set_option maxHeartbeats 4000000 in
set_option maxRecDepth 100000 in
theorem c_X3_step (l : Launch) (D : va_G) (cI cZ : ClassId) (a a1 a2 : Nat → Nat) (x : HC) (x1 : HC) (x2 : HC) (p1 : Int32) (sz : Nat) {r : HC} (hf : f_X3_step x x1 x2 p1 = some r) : Met l yX3_step (wM yX3_step cX3_step 9 none) RM_X3_step (va_Pc [.ref (a 0), .ref (a1 0), .ref (a2 0), .int p1] (pre D cI cZ (kP cI a x ++ (kL cI a1 x1 ++ (kS cI a2 x2))) sz)) (QV D (va_A (kP cI a x ++ (kL cI a1 x1 ++ (kS cI a2 x2))) sz) (fun (u : HC) => (kP cI a u ++ (kL cI a1 x1 ++ (kS cI a2 x2)))) r) 0 0 (va_A (kP cI a x ++ (kL cI a1 x1 ++ (kS cI a2 x2))) sz) := by
  unfold f_X3_step at hf
  refine Met.ofW (cc := cX3_step) (maxL := 9) (ret := none) (by decide) rfl ?_
  intro p e s m args below meth c s₁ B hml hv
  obtain ⟨rfl, hsz, hP, hK, hD0, hnw⟩ := hv
  have hx := B.exec
  have hb := B.bytes
  have hr := B.returns
  have hts := atoms_spec (ws := wM yX3_step cX3_step 9 none) B.pre
  have hG : ∀ w ∈ GW, w.before (([.ref (a 0), .ref (a1 0), .ref (a2 0), .int p1] : List Value).toArray) s = true := fun w h => hts w (List.mem_cons_of_mem _ h)
  have hown : s.vm.findClass RX3 = some m.cls := findClass_of_methodNamed B.named
  have hlocks := B.notSynchronized
  subst hsz
  have hD := hD0.self (sz := s.heap.size)
  generalize hAe : va_A (kP cI a x ++ (kL cI a1 x1 ++ (kS cI a2 x2))) s.heap.size = A at hD ⊢
  have hA : ∀ q : Nat, s.heap.size ≤ q → A q := fun q h => by rw [← hAe]; exact Or.inr h
  have hS : va_S A s.heap s.heap [] := va_S.rf
  have hl := lv_entry ([.ref (a 0), .ref (a1 0), .ref (a2 0), .int p1]) (n := 9) (Nat.le_of_ble_eq_true rfl)
  rw [lg_entry_eq]
  generalize (lg_sl ([.ref (a 0), .ref (a1 0), .ref (a2 0), .int p1]) ++ List.replicate (9 - (lg_sl ([.ref (a 0), .ref (a1 0), .ref (a2 0), .int p1])).length) Slot.unset).toArray = ls at hl ⊢
  have hl : lv_has ls 9 [(0, .ref (a 0)), (1, .ref (a1 0)), (2, .ref (a2 0)), (3, .int p1)] := hl
  show W p l e RM_X3_step s m (([.ref (a 0), .ref (a1 0), .ref (a2 0), .int p1] : List Value).toArray) below meth c s.heap [] 0 0 (MQ below (QV D A (fun (u : HC) => (kP cI a u ++ (kL cI a1 x1 ++ (kS cI a2 x2)))) r) (([.ref (a 0), .ref (a1 0), .ref (a2 0), .int p1] : List Value).toArray) s 0 0 A) (F0 m 0 ls [])
  refine lv_aload_n hx hb dX3_step_0 rfl (lv_at hl 0 rfl) ?_
  refine va_get (D := D) (ci := 3) (v := .int (x 0 3)) (C := RX3) (T := TX3) (N := 4) hx hb hG inG3 hown hK hP 0 at_PLS_0_0 rfl 3 (by decide) (hG _ g_213) (fun _ h9 => h9) rfl dX3_step_1 ?_
  refine lv_aload_n hx hb dX3_step_4 rfl (lv_at hl 2 rfl) ?_
  refine va_get (D := D) (ci := 4) (v := .ref (a2 2)) (C := RX4) (T := TX4) (N := 7) hx hb hG inG4 hown hK hP 16 at_PLS_2_0 rfl 1 (by decide) (hG _ g_177) (fun _ h9 => h9) rfl dX3_step_5 ?_
  refine lv_iload_n hx hb dX3_step_8 rfl (lv_at hl 3 rfl) ?_
  obtain ⟨hb9, hf⟩ := gd hf
  refine va_iald (cA := cI) (n := 5) (f := x2 2) hx hb hK hP 18 0 at_PLS_2_2 rfl (inb_in hb9) dX3_step_9 ?_
  refine lv_ior hx hb dX3_step_10 ?_
  refine lv_topi (fun v1 ev1 => ?_)
  have hf := nm_x ev1 hf
  refine lv_istore (lv' := [(4, .int v1), (0, .ref (a 0)), (1, .ref (a1 0)), (2, .ref (a2 0)), (3, .int p1)]) hx hb dX3_step_11 hl (by decide) rfl (fun ls hl => ?_)
  refine lv_aload_n hx hb dX3_step_13 rfl (lv_at hl 2 rfl) ?_
  refine lv_aload_n hx hb dX3_step_14 rfl (lv_at hl 1 rfl) ?_
  refine va_get (D := D) (ci := 3) (v := .int (x 0 3)) (C := RX3) (T := TX3) (N := 4) hx hb hG inG3 hown hK hP 0 at_PLS_0_0 rfl 3 (by decide) (hG _ g_213) (fun _ h9 => h9) rfl dX3_step_15 ?_
  obtain ⟨q2, hq2, hf⟩ := bd_x hf
  have hPc := subP [3, 4, 5, 6, 7, 8, 9, 10, 11, 12, 13, 14, 15] sub_PLS_L_1 hP
  have hDc := va_D.sub hD [3, 4, 5, 6, 7, 8, 9, 10, 11, 12, 13, 14, 15] rfl sub_PLS_L_1
  have hFc := va_free hD hS hA [3, 4, 5, 6, 7, 8, 9, 10, 11, 12, 13, 14, 15] sub_PLS_L_1
  refine va_calli (va_runV (As := [.int (x 0 3)]) (rest := []) ⟨hx, hb, hml, hown, hG⟩ (c_X2_fameOf l D cI cZ a1 x1 (x 0 3) s.heap.size hq2) (cwV 1 hG (gV g_443 g_444 g_445 g_72 g_446) rfl rfl rfl (by decide +kernel) ⟨Nat.le_of_ble_eq_true rfl, Nat.le_of_ble_eq_true rfl⟩) ⟨pre_blind, va_recv hK hPc (ci := 2) (q0 := 0) rfl rfl, fun U hU hW => ⟨rfl, pre_of hPc hK hDc hnw hU hW⟩⟩ rfl rfl hl.1 rfl (lv_room (Nat.le_of_ble_eq_true rfl)) dX3_step_18 ⟨Nat.le_of_ble_eq_true rfl, Nat.le_of_ble_eq_true rfl⟩) hS (fun q _ h => hFc q h) hFc (fun v u t H locs ht hvm hw hB hz1 hk1 hS => ?_)
  have hw := hw.symm; subst hw
  obtain ⟨hP1, hD1⟩ := hB
  rw [ht] at hP1
  obtain ⟨hP, hD⟩ := back hP hD [3, 4, 5, 6, 7, 8, 9, 10, 11, 12, 13, 14, 15] sub_PLS_L_1 rfl hk1 hFc hP1 hD1
  have hP := wP put_PLS_L_1_ hP
  have hD := wD put_PLS_L_1_ hD
  refine lv_istore (lv' := [(5, .int q2), (4, .int v1), (0, .ref (a 0)), (1, .ref (a1 0)), (2, .ref (a2 0)), (3, .int p1)]) hx hb dX3_step_21 hl (by decide) rfl (fun ls hl => ?_)
  refine lv_iconst (v := (0 : Int32)) hx hb dX3_step_23 (by decide) ?_
  refine lv_istore (lv' := [(6, .int (0 : Int32)), (5, .int q2), (4, .int v1), (0, .ref (a 0)), (1, .ref (a1 0)), (2, .ref (a2 0)), (3, .int p1)]) hx hb dX3_step_24 hl (by decide) rfl (fun ls hl => ?_)
  have L26 : ∀ (n : Nat) (v3 : Int32) (H : Heap) (locs : List Loc) (ls : Array Slot), va_P D vwCl (kP cI a x ++ (kL cI a1 x1 ++ (kS cI a2 x2))) H → va_D A (kP cI a x ++ (kL cI a1 x1 ++ (kS cI a2 x2))) → va_S A s.heap H locs → lv_has ls 9 [(0, .ref (a 0)), (1, .ref (a1 0)), (2, .ref (a2 0)), (3, .int p1), (4, .int v1), (5, .int q2), (6, .int v3)] → lp (fun _ => none : Int32 → Option (HC)) (f_X3_step_b26 x x1 x2 p1 v1 q2) n v3 = some r → W p l e RM_X3_step s m (([.ref (a 0), .ref (a1 0), .ref (a2 0), .int p1] : List Value).toArray) below meth c H locs 0 0 (MQ below (QV D A (fun (u : HC) => (kP cI a u ++ (kL cI a1 x1 ++ (kS cI a2 x2)))) r) (([.ref (a 0), .ref (a1 0), .ref (a2 0), .int p1] : List Value).toArray) s 0 0 A) (F0 m 26 ls []) := by
    intro n
    induction n with
    | zero => intro v3 H locs ls _ _ _ _ hf; cases (show (none : Option (HC)) = some r from hf)
    | succ n ih26 =>
      intro v3 H locs ls hP hD hS hl hf
      have hf : (f_X3_step_b26 x x1 x2 p1 v1 q2) (lp (fun _ => none : Int32 → Option (HC)) (f_X3_step_b26 x x1 x2 p1 v1 q2) n) v3 = some r := hf
      generalize lp (fun _ => none : Int32 → Option (HC)) (f_X3_step_b26 x x1 x2 p1 v1 q2) n = rc26 at ih26 hf
      unfold f_X3_step_b26 at hf
      refine lv_iload hx hb dX3_step_26 (lv_at hl 6 rfl) ?_
      refine lv_aload_n hx hb dX3_step_28 rfl (lv_at hl 1 rfl) ?_
      refine va_get (D := D) (ci := 2) (v := .int (x1 0 3)) (C := RX2) (T := TX2) (N := 18) hx hb hG inG2 hown hK hP 3 at_PLS_1_0 rfl 3 (by decide) (hG _ g_120) (fun _ h9 => h9) rfl dX3_step_29 ?_
      refine lv_icmp_ge (tgt := 158) hx hb dX3_step_32 (by decide) (fun cc32 => ?_) (fun cc32 => ?_)
      · have hf := if_t cc32 hf
        exact W.vret hx hb hr (fun t ht hW => ⟨⟨x, rfl, Option.some.inj hf, by rw [ht]; exact hP, hD⟩, hS.F ht⟩) hS.2.2 dX3_step_158
      · have hf := if_f cc32 hf
        refine lv_iload hx hb dX3_step_35 (lv_at hl 4 rfl) ?_
        refine lv_iload hx hb dX3_step_37 (lv_at hl 6 rfl) ?_
        obtain ⟨q4, hq4, hf⟩ := bd_x hf
        have hFc := va_free (wc := []) hD hS hA [] rfl
        refine va_calli (va_runSN (As := [.int v1, .int v3]) (rest := []) ⟨hx, hb, hml, hown, hG⟩ (c_X6_has l D cI cZ v1 v3 H.size hq4) ⟨va_cnB 2 hG (gC g_285) rfl rfl rfl hnw.2.2.2.1 (hG _ g_70) (by decide +kernel) ⟨Nat.le_of_ble_eq_true rfl, Nat.le_of_ble_eq_true rfl⟩, hG _ g_284, trivial⟩ ⟨pre_blind, fun U hU hW => ⟨rfl, pre_of P_nil hK D_nil hnw hU hW⟩⟩ rfl rfl hl.1 rfl (lv_room (Nat.le_of_ble_eq_true rfl)) dX3_step_39 ⟨Nat.le_of_ble_eq_true rfl, Nat.le_of_ble_eq_true rfl⟩) hS (fun q _ h => hFc q h) hFc (fun v u t H locs ht hvm hw hB hz1 hk1 hS => ?_)
        have hw := hw.symm; subst hw
        obtain ⟨hP1, hD1⟩ := hB
        rw [ht] at hP1
        obtain ⟨hP, hD⟩ := back hP hD [] rfl rfl hk1 hFc hP1 hD1
        have J152 : ∀  (H : Heap) (locs : List Loc) (ls : Array Slot), va_P D vwCl (kP cI a x ++ (kL cI a1 x1 ++ (kS cI a2 x2))) H → va_D A (kP cI a x ++ (kL cI a1 x1 ++ (kS cI a2 x2))) → va_S A s.heap H locs → lv_has ls 9 [(0, .ref (a 0)), (1, .ref (a1 0)), (2, .ref (a2 0)), (3, .int p1), (4, .int v1), (5, .int q2), (6, .int v3)] → f_X3_step_j152 rc26 v3  = some r → W p l e RM_X3_step s m (([.ref (a 0), .ref (a1 0), .ref (a2 0), .int p1] : List Value).toArray) below meth c H locs 0 0 (MQ below (QV D A (fun (u : HC) => (kP cI a u ++ (kL cI a1 x1 ++ (kS cI a2 x2)))) r) (([.ref (a 0), .ref (a1 0), .ref (a2 0), .int p1] : List Value).toArray) s 0 0 A) (F0 m 152 ls []) := by
          intro  H locs ls hP hD hS hl hf
          unfold f_X3_step_j152 at hf
          obtain ⟨v5, ev5⟩ : ∃ y : Int32, y = (v3 + (1 : Int32)) := ⟨_, rfl⟩
          have hf := nm_x ev5 hf
          refine lv_iinc (v := v5) (lv' := [(6, .int v5), (0, .ref (a 0)), (1, .ref (a1 0)), (2, .ref (a2 0)), (3, .int p1), (4, .int v1), (5, .int q2)]) hx hb dX3_step_152 hl (k := 6) rfl (by rw [ev5]; rfl) (by decide) rfl (fun ls hl => ?_)
          refine lv_goto (tgt := 26) hx hb dX3_step_155 (by decide) ?_
          exact ih26 v5 _ _ _ hP hD hS (lv_sub hl [1, 2, 3, 4, 5, 6, 0] rfl) hf
        refine lv_if_eq (tgt := 48) hx hb dX3_step_42 (by decide) (fun cc42 => ?_) (fun cc42 => ?_)
        · have hf := if_t cc42 hf
          refine lv_bipush (v := (99 : Int32)) hx hb dX3_step_48 (by decide) ?_
          refine lv_aload_n hx hb dX3_step_50 rfl (lv_at hl 2 rfl) ?_
          refine va_get (D := D) (ci := 4) (v := .ref (a2 4)) (C := RX4) (T := TX4) (N := 7) hx hb hG inG4 hown hK hP 16 at_PLS_2_0 rfl 3 (by decide) (hG _ g_184) (fun _ h9 => h9) rfl dX3_step_51 ?_
          refine lv_aload_n hx hb dX3_step_54 rfl (lv_at hl 1 rfl) ?_
          refine va_get (D := D) (ci := 2) (v := .ref (a1 5)) (C := RX2) (T := TX2) (N := 18) hx hb hG inG2 hown hK hP 3 at_PLS_1_0 rfl 10 (by decide) (hG _ g_142) (fun _ h9 => h9) rfl dX3_step_55 ?_
          refine lv_iload hx hb dX3_step_58 (lv_at hl 6 rfl) ?_
          obtain ⟨hb60, hf⟩ := gd hf
          refine va_iald (cA := cI) (n := 6) (f := x1 5) hx hb hK hP 8 0 at_PLS_1_5 rfl (inb_in hb60) dX3_step_60 ?_
          refine lv_iload_n hx hb dX3_step_61 rfl (lv_at hl 3 rfl) ?_
          obtain ⟨q6, hq6, hf⟩ := bd_x hf
          have hFc := va_free (wc := []) hD hS hA [] rfl
          refine va_calli (va_runSN (As := [.int (x1 5 (Int32.toNatClampNeg v3)), .int p1]) (rest := [.ref (a2 4), .int (99 : Int32)]) ⟨hx, hb, hml, hown, hG⟩ (c_X6_slot l D cI cZ (x1 5 (Int32.toNatClampNeg v3)) p1 H.size hq6) ⟨va_cnB 2 hG (gC g_297) rfl rfl rfl hnw.2.2.2.2.1 (hG _ g_70) (by decide +kernel) ⟨Nat.le_of_ble_eq_true rfl, Nat.le_of_ble_eq_true rfl⟩, hG _ g_296, trivial⟩ ⟨pre_blind, fun U hU hW => ⟨rfl, pre_of P_nil hK D_nil hnw hU hW⟩⟩ rfl rfl hl.1 rfl (lv_room (Nat.le_of_ble_eq_true rfl)) dX3_step_62 ⟨Nat.le_of_ble_eq_true rfl, Nat.le_of_ble_eq_true rfl⟩) hS (fun q _ h => hFc q h) hFc (fun v u t H locs ht hvm hw hB hz1 hk1 hS => ?_)
          have hw := hw.symm; subst hw
          obtain ⟨hP1, hD1⟩ := hB
          rw [ht] at hP1
          obtain ⟨hP, hD⟩ := back hP hD [] rfl rfl hk1 hFc hP1 hD1
          obtain ⟨hb65, hf⟩ := gd hf
          refine va_iald (cA := cI) (n := 30) (f := x2 4) hx hb hK hP 20 0 at_PLS_2_4 rfl (inb_in hb65) dX3_step_65 ?_
          refine lv_iload hx hb dX3_step_66 (lv_at hl 5 rfl) ?_
          refine lv_iadd hx hb dX3_step_68 ?_
          refine va_mmin hx hb (hml.trans hl.1.symm) hown (hG _ g_449) (hG _ g_330) (hG _ g_78) (hG _ g_331) (Nat.le_of_ble_eq_true rfl) (Nat.le_of_ble_eq_true rfl) (Nat.zero_le _) (Nat.zero_le _) dX3_step_69 ?_
          refine lv_topi (fun v7 ev7 => ?_)
          have hf := nm_x ev7 hf
          refine lv_istore (lv' := [(7, .int v7), (0, .ref (a 0)), (1, .ref (a1 0)), (2, .ref (a2 0)), (3, .int p1), (4, .int v1), (5, .int q2), (6, .int v3)]) hx hb dX3_step_72 hl (by decide) rfl (fun ls hl => ?_)
          refine lv_aload_n hx hb dX3_step_74 rfl (lv_at hl 2 rfl) ?_
          refine lv_iload_n hx hb dX3_step_75 rfl (lv_at hl 4 rfl) ?_
          refine lv_iload hx hb dX3_step_76 (lv_at hl 7 rfl) ?_
          refine lv_aload_n hx hb dX3_step_78 rfl (lv_at hl 2 rfl) ?_
          refine lv_iload hx hb dX3_step_79 (lv_at hl 7 rfl) ?_
          obtain ⟨q8, hq8, hf⟩ := bd_x hf
          have hPc := subP [3, 4, 5, 6, 7, 8, 9, 10, 11, 12, 13, 14, 15] sub_PLS_L_1 hP
          have hDc := va_D.sub hD [3, 4, 5, 6, 7, 8, 9, 10, 11, 12, 13, 14, 15] rfl sub_PLS_L_1
          have hFc := va_free hD hS hA [3, 4, 5, 6, 7, 8, 9, 10, 11, 12, 13, 14, 15] sub_PLS_L_1
          refine va_calli (va_runV (As := [.int v3]) (rest := [.int v3, .int p1, .ref (a1 0)]) ⟨hx, hb, hml, hown, hG⟩ (c_X2_tricksOf l D cI cZ a1 x1 v3 H.size hq8) (cwV 1 hG (gV g_450 g_359 g_360 g_72 g_361) rfl rfl rfl (by decide +kernel) ⟨Nat.le_of_ble_eq_true rfl, Nat.le_of_ble_eq_true rfl⟩) ⟨pre_blind, va_recv hK hPc (ci := 2) (q0 := 0) rfl rfl, fun U hU hW => ⟨rfl, pre_of hPc hK hDc hnw hU hW⟩⟩ rfl rfl hl.1 rfl (lv_room (Nat.le_of_ble_eq_true rfl)) dX3_step_81 ⟨Nat.le_of_ble_eq_true rfl, Nat.le_of_ble_eq_true rfl⟩) hS (fun q _ h => hFc q h) hFc (fun v u t H locs ht hvm hw hB hz1 hk1 hS => ?_)
          have hw := hw.symm; subst hw
          obtain ⟨hP1, hD1⟩ := hB
          rw [ht] at hP1
          obtain ⟨hP, hD⟩ := back hP hD [3, 4, 5, 6, 7, 8, 9, 10, 11, 12, 13, 14, 15] sub_PLS_L_1 rfl hk1 hFc hP1 hD1
          have hP := wP put_PLS_L_1_ hP
          have hD := wD put_PLS_L_1_ hD
          refine lv_aload_n hx hb dX3_step_84 rfl (lv_at hl 3 rfl) ?_
          refine va_get (D := D) (ci := 4) (v := .ref (a2 3)) (C := RX4) (T := TX4) (N := 7) hx hb hG inG4 hown hK hP 16 at_PLS_2_0 rfl 2 (by decide) (hG _ g_180) (fun _ h9 => h9) rfl dX3_step_85 ?_
          refine lv_iload_n hx hb dX3_step_88 rfl (lv_at hl 4 rfl) ?_
          obtain ⟨hb89, hf⟩ := gd hf
          refine va_iald (cA := cI) (n := 5) (f := x2 3) hx hb hK hP 19 0 at_PLS_2_3 rfl (inb_in hb89) dX3_step_89 ?_
          refine lv_iconst (v := (-1 : Int32)) hx hb dX3_step_90 (by decide) ?_
          refine lv_ixor hx hb dX3_step_91 ?_
          refine lv_iand hx hb dX3_step_92 ?_
          refine lv_iload hx hb dX3_step_93 (lv_at hl 0 rfl) ?_
          obtain ⟨q9, hq9, hf⟩ := bd_x hf
          have hPc := subP [3, 4, 5, 6, 7, 8, 9, 10, 11, 12, 13, 14, 15] sub_PLS_L_1 hP
          have hDc := va_D.sub hD [3, 4, 5, 6, 7, 8, 9, 10, 11, 12, 13, 14, 15] rfl sub_PLS_L_1
          have hFc := va_free hD hS hA [3, 4, 5, 6, 7, 8, 9, 10, 11, 12, 13, 14, 15] sub_PLS_L_1
          refine va_calli (va_runS (As := [.ref (a1 0), .int p1, .int v3, .int (q8 &&& ((x2 3 (Int32.toNatClampNeg p1)) ^^^ (-1 : Int32))), .int v7]) (rest := []) ⟨hx, hb, hml, hown, hG⟩ (c_X3_leastSet l D cI cZ a1 x1 p1 v3 (q8 &&& ((x2 3 (Int32.toNatClampNeg p1)) ^^^ (-1 : Int32))) v7 H.size hq9) (cwS 5 hG (gS g_451 g_452 g_75 g_453) rfl rfl rfl (by decide +kernel) ⟨Nat.le_of_ble_eq_true rfl, Nat.le_of_ble_eq_true rfl⟩) ⟨pre_blind, fun U hU hW => ⟨rfl, pre_of hPc hK hDc hnw hU hW⟩⟩ rfl rfl hl.1 rfl (lv_room (Nat.le_of_ble_eq_true rfl)) dX3_step_95 ⟨Nat.le_of_ble_eq_true rfl, Nat.le_of_ble_eq_true rfl⟩) hS (fun q _ h => hFc q h) hFc (fun v u t H locs ht hvm hw hB hz1 hk1 hS => ?_)
          have hw := hw.symm; subst hw
          obtain ⟨hP1, hD1⟩ := hB
          rw [ht] at hP1
          obtain ⟨hP, hD⟩ := back hP hD [3, 4, 5, 6, 7, 8, 9, 10, 11, 12, 13, 14, 15] sub_PLS_L_1 rfl hk1 hFc hP1 hD1
          have hP := wP put_PLS_L_1_ hP
          have hD := wD put_PLS_L_1_ hD
          refine lv_istore (lv' := [(8, .int q9), (7, .int v7), (0, .ref (a 0)), (1, .ref (a1 0)), (2, .ref (a2 0)), (3, .int p1), (4, .int v1), (5, .int q2), (6, .int v3)]) hx hb dX3_step_98 hl (by decide) rfl (fun ls hl => ?_)
          refine lv_iload hx hb dX3_step_100 (lv_at hl 0 rfl) ?_
          refine lv_iconst (v := (-1 : Int32)) hx hb dX3_step_102 (by decide) ?_
          refine lv_icmp_eq (tgt := 152) hx hb dX3_step_103 (by decide) (fun cc103 => ?_) (fun cc103 => ?_)
          · have hf := if_t cc103 hf
            exact J152  _ _ _ hP hD hS (lv_sub hl [2, 3, 4, 5, 6, 7, 8] rfl) hf
          · have hf := if_f cc103 hf
            refine lv_aload_n hx hb dX3_step_106 rfl (lv_at hl 2 rfl) ?_
            refine va_get (D := D) (ci := 3) (v := .ref (a 1)) (C := RX3) (T := TX3) (N := 4) hx hb hG inG3 hown hK hP 0 at_PLS_0_0 rfl 0 (by decide) (hG _ g_208) (fun _ h9 => h9) rfl dX3_step_107 ?_
            refine lv_aload_n hx hb dX3_step_110 rfl (lv_at hl 2 rfl) ?_
            refine va_get (D := D) (ci := 3) (v := .int (x 0 2)) (C := RX3) (T := TX3) (N := 4) hx hb hG inG3 hown hK hP 0 at_PLS_0_0 rfl 2 (by decide) (hG _ g_212) (fun _ h9 => h9) rfl dX3_step_111 ?_
            refine lv_iload hx hb dX3_step_114 (lv_at hl 8 rfl) ?_
            obtain ⟨hb116, hf⟩ := gd hf
            refine va_iast (cA := cI) (n := 6) (f := x 1) hx hb hK hP hD hS 1 0 at_PLS_0_1 rfl (inb_in hb116) dX3_step_116 (fun H locs hP hD hS => ?_)
            obtain ⟨X10, eX10⟩ : ∃ y : HC, y = (sa x 1 (x 0 2) v3) := ⟨_, rfl⟩
            have hf := nm_x eX10 hf
            have hP := wP (sa_PLS_0_1.trans (congrArg (fun z : HC => (kP cI a z ++ (kL cI a1 x1 ++ (kS cI a2 x2)))) eX10.symm)) hP
            have hD := wD (sa_PLS_0_1.trans (congrArg (fun z : HC => (kP cI a z ++ (kL cI a1 x1 ++ (kS cI a2 x2)))) eX10.symm)) hD
            refine lv_aload_n hx hb dX3_step_117 rfl (lv_at hl 2 rfl) ?_
            refine va_get (D := D) (ci := 3) (v := .ref (a 2)) (C := RX3) (T := TX3) (N := 4) hx hb hG inG3 hown hK hP 0 at_PLS_0_0 rfl 1 (by decide) (hG _ g_210) (fun _ h9 => h9) rfl dX3_step_118 ?_
            refine lv_aload_n hx hb dX3_step_121 rfl (lv_at hl 2 rfl) ?_
            refine va_get (D := D) (ci := 3) (v := .int (X10 0 2)) (C := RX3) (T := TX3) (N := 4) hx hb hG inG3 hown hK hP 0 at_PLS_0_0 rfl 2 (by decide) (hG _ g_212) (fun _ h9 => h9) rfl dX3_step_122 ?_
            refine lv_iload hx hb dX3_step_125 (lv_at hl 0 rfl) ?_
            obtain ⟨hb127, hf⟩ := gd hf
            refine va_iast (cA := cI) (n := 6) (f := X10 2) hx hb hK hP hD hS 2 0 at_PLS_0_2 rfl (inb_in hb127) dX3_step_127 (fun H locs hP hD hS => ?_)
            obtain ⟨X11, eX11⟩ : ∃ y : HC, y = (sa X10 2 (X10 0 2) q9) := ⟨_, rfl⟩
            have hf := nm_x eX11 hf
            have hP := wP (sa_PLS_0_2.trans (congrArg (fun z : HC => (kP cI a z ++ (kL cI a1 x1 ++ (kS cI a2 x2)))) eX11.symm)) hP
            have hD := wD (sa_PLS_0_2.trans (congrArg (fun z : HC => (kP cI a z ++ (kL cI a1 x1 ++ (kS cI a2 x2)))) eX11.symm)) hD
            refine lv_aload_n hx hb dX3_step_128 rfl (lv_at hl 2 rfl) ?_
            refine lv_dup hx hb dX3_step_129 rfl ?_
            refine va_get (D := D) (ci := 3) (v := .int (X11 0 2)) (C := RX3) (T := TX3) (N := 4) hx hb hG inG3 hown hK hP 0 at_PLS_0_0 rfl 2 (by decide) (hG _ g_212) (fun _ h9 => h9) rfl dX3_step_130 ?_
            refine lv_iconst (v := (1 : Int32)) hx hb dX3_step_133 (by decide) ?_
            refine lv_iadd hx hb dX3_step_134 ?_
            refine va_put (D := D) (ci := 3) (v := .int ((X11 0 2) + (1 : Int32))) (ty := .int) (C := RX3) (T := TX3) (N := 4) hx hb hG inG3 tyX3 tyX3_ok nmX3 hown hK hP hD hS 0 at_PLS_0_0 rfl 2 (by decide) (hG _ g_212) (fun _ h9 => h9) rfl (by decide +kernel) rfl rfl (Nat.le_of_ble_eq_true rfl) dX3_step_135 (fun H locs hP hD hS => ?_)
            obtain ⟨X12, eX12⟩ : ∃ y : HC, y = (sf X11 2 ((X11 0 2) + (1 : Int32))) := ⟨_, rfl⟩
            have hf := nm_x eX12 hf
            have hP := wP (sf_PLS_0_2.trans (congrArg (fun z : HC => (kP cI a z ++ (kL cI a1 x1 ++ (kS cI a2 x2)))) eX12.symm)) hP
            have hD := wD (sf_PLS_0_2.trans (congrArg (fun z : HC => (kP cI a z ++ (kL cI a1 x1 ++ (kS cI a2 x2)))) eX12.symm)) hD
            refine lv_aload_n hx hb dX3_step_138 rfl (lv_at hl 2 rfl) ?_
            refine lv_dup hx hb dX3_step_139 rfl ?_
            refine va_get (D := D) (ci := 3) (v := .int (X12 0 3)) (C := RX3) (T := TX3) (N := 4) hx hb hG inG3 hown hK hP 0 at_PLS_0_0 rfl 3 (by decide) (hG _ g_213) (fun _ h9 => h9) rfl dX3_step_140 ?_
            refine lv_iconst (v := (1 : Int32)) hx hb dX3_step_143 (by decide) ?_
            refine lv_iload hx hb dX3_step_144 (lv_at hl 8 rfl) ?_
            refine lv_ishl hx hb dX3_step_146 ?_
            refine lv_ior hx hb dX3_step_147 ?_
            refine va_put (D := D) (ci := 3) (v := .int ((X12 0 3) ||| ((1 : Int32) <<< (v3 &&& 31)))) (ty := .int) (C := RX3) (T := TX3) (N := 4) hx hb hG inG3 tyX3 tyX3_ok nmX3 hown hK hP hD hS 0 at_PLS_0_0 rfl 3 (by decide) (hG _ g_213) (fun _ h9 => h9) rfl (by decide +kernel) rfl rfl (Nat.le_of_ble_eq_true rfl) dX3_step_148 (fun H locs hP hD hS => ?_)
            obtain ⟨X13, eX13⟩ : ∃ y : HC, y = (sf X12 3 ((X12 0 3) ||| ((1 : Int32) <<< (v3 &&& 31)))) := ⟨_, rfl⟩
            have hf := nm_x eX13 hf
            have hP := wP (sf_PLS_0_3.trans (congrArg (fun z : HC => (kP cI a z ++ (kL cI a1 x1 ++ (kS cI a2 x2)))) eX13.symm)) hP
            have hD := wD (sf_PLS_0_3.trans (congrArg (fun z : HC => (kP cI a z ++ (kL cI a1 x1 ++ (kS cI a2 x2)))) eX13.symm)) hD
            exact W.vret hx hb hr (fun t ht hW => ⟨⟨X13, rfl, Option.some.inj hf, by rw [ht]; exact hP, hD⟩, hS.F ht⟩) hS.2.2 dX3_step_151
        · have hf := if_f cc42 hf
          refine lv_goto (tgt := 152) hx hb dX3_step_45 (by decide) ?_
          exact J152  _ _ _ hP hD hS (lv_sub hl [0, 1, 2, 3, 4, 5, 6] rfl) hf
  exact L26 FU (0 : Int32) _ _ _ hP hD hS (lv_sub hl [3, 4, 5, 6, 2, 1, 0] rfl) hf
def f_X3_walk_b13 (x1 : HC) (x2 : HC) (p1 : Int32) (rc13 : Int32 → HC → Option (HC)) (v3 : Int32) (X4 : HC) : Option (HC) := (if (6 : Int32) ≤ v3 then some X4 else (if (X4 0 2) = v3 then bd (f_X3_step X4 x1 x2 p1) (fun (q5 : HC) => nm (v3 + (1 : Int32)) (fun (v6 : Int32) => rc13 v6 q5)) else some X4))
def f_X3_walk (x : HC) (x1 : HC) (x2 : HC) (p1 : Int32) : Option (HC) := nm (sf x 2 (0 : Int32)) (fun (X1 : HC) => nm (sf X1 3 (0 : Int32)) (fun (X2 : HC) => lp (fun _ _ => none : Int32 → HC → Option (HC)) (f_X3_walk_b13 x1 x2 p1) FU (0 : Int32) X2))
abbrev RM_X3_walk : Room := { frames := 5, cells := 0, slots := 0, locals := 123 }
set_option maxHeartbeats 4000000 in
set_option maxRecDepth 100000 in
theorem c_X3_walk (l : Launch) (D : va_G) (cI cZ : ClassId) (a a1 a2 : Nat → Nat) (x : HC) (x1 : HC) (x2 : HC) (p1 : Int32) (sz : Nat) {r : HC} (hf : f_X3_walk x x1 x2 p1 = some r) : Met l yX3_walk (wM yX3_walk cX3_walk 5 none) RM_X3_walk (va_Pc [.ref (a 0), .ref (a1 0), .ref (a2 0), .int p1] (pre D cI cZ (kP cI a x ++ (kL cI a1 x1 ++ (kS cI a2 x2))) sz)) (QV D (va_A (kP cI a x ++ (kL cI a1 x1 ++ (kS cI a2 x2))) sz) (fun (u : HC) => (kP cI a u ++ (kL cI a1 x1 ++ (kS cI a2 x2)))) r) 0 0 (va_A (kP cI a x ++ (kL cI a1 x1 ++ (kS cI a2 x2))) sz) := by
  unfold f_X3_walk at hf
  refine Met.ofW (cc := cX3_walk) (maxL := 5) (ret := none) (by decide) rfl ?_
  intro p e s m args below meth c s₁ B hml hv
  obtain ⟨rfl, hsz, hP, hK, hD0, hnw⟩ := hv
  have hx := B.exec
  have hb := B.bytes
  have hr := B.returns
  have hts := atoms_spec (ws := wM yX3_walk cX3_walk 5 none) B.pre
  have hG : ∀ w ∈ GW, w.before (([.ref (a 0), .ref (a1 0), .ref (a2 0), .int p1] : List Value).toArray) s = true := fun w h => hts w (List.mem_cons_of_mem _ h)
  have hown : s.vm.findClass RX3 = some m.cls := findClass_of_methodNamed B.named
  have hlocks := B.notSynchronized
  subst hsz
  have hD := hD0.self (sz := s.heap.size)
  generalize hAe : va_A (kP cI a x ++ (kL cI a1 x1 ++ (kS cI a2 x2))) s.heap.size = A at hD ⊢
  have hA : ∀ q : Nat, s.heap.size ≤ q → A q := fun q h => by rw [← hAe]; exact Or.inr h
  have hS : va_S A s.heap s.heap [] := va_S.rf
  have hl := lv_entry ([.ref (a 0), .ref (a1 0), .ref (a2 0), .int p1]) (n := 5) (Nat.le_of_ble_eq_true rfl)
  rw [lg_entry_eq]
  generalize (lg_sl ([.ref (a 0), .ref (a1 0), .ref (a2 0), .int p1]) ++ List.replicate (5 - (lg_sl ([.ref (a 0), .ref (a1 0), .ref (a2 0), .int p1])).length) Slot.unset).toArray = ls at hl ⊢
  have hl : lv_has ls 5 [(0, .ref (a 0)), (1, .ref (a1 0)), (2, .ref (a2 0)), (3, .int p1)] := hl
  show W p l e RM_X3_walk s m (([.ref (a 0), .ref (a1 0), .ref (a2 0), .int p1] : List Value).toArray) below meth c s.heap [] 0 0 (MQ below (QV D A (fun (u : HC) => (kP cI a u ++ (kL cI a1 x1 ++ (kS cI a2 x2)))) r) (([.ref (a 0), .ref (a1 0), .ref (a2 0), .int p1] : List Value).toArray) s 0 0 A) (F0 m 0 ls [])
  refine lv_aload_n hx hb dX3_walk_0 rfl (lv_at hl 0 rfl) ?_
  refine lv_iconst (v := (0 : Int32)) hx hb dX3_walk_1 (by decide) ?_
  refine va_put (D := D) (ci := 3) (v := .int (0 : Int32)) (ty := .int) (C := RX3) (T := TX3) (N := 4) hx hb hG inG3 tyX3 tyX3_ok nmX3 hown hK hP hD hS 0 at_PLS_0_0 rfl 2 (by decide) (hG _ g_212) (fun _ h9 => h9) rfl (by decide +kernel) rfl rfl (Nat.le_of_ble_eq_true rfl) dX3_walk_2 (fun H locs hP hD hS => ?_)
  obtain ⟨X1, eX1⟩ : ∃ y : HC, y = (sf x 2 (0 : Int32)) := ⟨_, rfl⟩
  have hf := nm_x eX1 hf
  have hP := wP (sf_PLS_0_2.trans (congrArg (fun z : HC => (kP cI a z ++ (kL cI a1 x1 ++ (kS cI a2 x2)))) eX1.symm)) hP
  have hD := wD (sf_PLS_0_2.trans (congrArg (fun z : HC => (kP cI a z ++ (kL cI a1 x1 ++ (kS cI a2 x2)))) eX1.symm)) hD
  refine lv_aload_n hx hb dX3_walk_5 rfl (lv_at hl 0 rfl) ?_
  refine lv_iconst (v := (0 : Int32)) hx hb dX3_walk_6 (by decide) ?_
  refine va_put (D := D) (ci := 3) (v := .int (0 : Int32)) (ty := .int) (C := RX3) (T := TX3) (N := 4) hx hb hG inG3 tyX3 tyX3_ok nmX3 hown hK hP hD hS 0 at_PLS_0_0 rfl 3 (by decide) (hG _ g_213) (fun _ h9 => h9) rfl (by decide +kernel) rfl rfl (Nat.le_of_ble_eq_true rfl) dX3_walk_7 (fun H locs hP hD hS => ?_)
  obtain ⟨X2, eX2⟩ : ∃ y : HC, y = (sf X1 3 (0 : Int32)) := ⟨_, rfl⟩
  have hf := nm_x eX2 hf
  have hP := wP (sf_PLS_0_3.trans (congrArg (fun z : HC => (kP cI a z ++ (kL cI a1 x1 ++ (kS cI a2 x2)))) eX2.symm)) hP
  have hD := wD (sf_PLS_0_3.trans (congrArg (fun z : HC => (kP cI a z ++ (kL cI a1 x1 ++ (kS cI a2 x2)))) eX2.symm)) hD
  refine lv_iconst (v := (0 : Int32)) hx hb dX3_walk_10 (by decide) ?_
  refine lv_istore (lv' := [(4, .int (0 : Int32)), (0, .ref (a 0)), (1, .ref (a1 0)), (2, .ref (a2 0)), (3, .int p1)]) hx hb dX3_walk_11 hl (by decide) rfl (fun ls hl => ?_)
  have L13 : ∀ (n : Nat) (v3 : Int32) (X4 : HC) (H : Heap) (locs : List Loc) (ls : Array Slot), va_P D vwCl (kP cI a X4 ++ (kL cI a1 x1 ++ (kS cI a2 x2))) H → va_D A (kP cI a X4 ++ (kL cI a1 x1 ++ (kS cI a2 x2))) → va_S A s.heap H locs → lv_has ls 5 [(0, .ref (a 0)), (1, .ref (a1 0)), (2, .ref (a2 0)), (3, .int p1), (4, .int v3)] → lp (fun _ _ => none : Int32 → HC → Option (HC)) (f_X3_walk_b13 x1 x2 p1) n v3 X4 = some r → W p l e RM_X3_walk s m (([.ref (a 0), .ref (a1 0), .ref (a2 0), .int p1] : List Value).toArray) below meth c H locs 0 0 (MQ below (QV D A (fun (u : HC) => (kP cI a u ++ (kL cI a1 x1 ++ (kS cI a2 x2)))) r) (([.ref (a 0), .ref (a1 0), .ref (a2 0), .int p1] : List Value).toArray) s 0 0 A) (F0 m 13 ls []) := by
    intro n
    induction n with
    | zero => intro v3 X4 H locs ls _ _ _ _ hf; cases (show (none : Option (HC)) = some r from hf)
    | succ n ih13 =>
      intro v3 X4 H locs ls hP hD hS hl hf
      have hf : (f_X3_walk_b13 x1 x2 p1) (lp (fun _ _ => none : Int32 → HC → Option (HC)) (f_X3_walk_b13 x1 x2 p1) n) v3 X4 = some r := hf
      generalize lp (fun _ _ => none : Int32 → HC → Option (HC)) (f_X3_walk_b13 x1 x2 p1) n = rc13 at ih13 hf
      unfold f_X3_walk_b13 at hf
      refine lv_iload hx hb dX3_walk_13 (lv_at hl 4 rfl) ?_
      refine lv_bipush (v := (6 : Int32)) hx hb dX3_walk_15 (by decide) ?_
      refine lv_icmp_ge (tgt := 42) hx hb dX3_walk_17 (by decide) (fun cc17 => ?_) (fun cc17 => ?_)
      · have hf := if_t cc17 hf
        exact W.vret hx hb hr (fun t ht hW => ⟨⟨X4, rfl, Option.some.inj hf, by rw [ht]; exact hP, hD⟩, hS.F ht⟩) hS.2.2 dX3_walk_42
      · have hf := if_f cc17 hf
        refine lv_aload_n hx hb dX3_walk_20 rfl (lv_at hl 0 rfl) ?_
        refine va_get (D := D) (ci := 3) (v := .int (X4 0 2)) (C := RX3) (T := TX3) (N := 4) hx hb hG inG3 hown hK hP 0 at_PLS_0_0 rfl 2 (by decide) (hG _ g_212) (fun _ h9 => h9) rfl dX3_walk_21 ?_
        refine lv_iload hx hb dX3_walk_24 (lv_at hl 4 rfl) ?_
        refine lv_icmp_ne (tgt := 42) hx hb dX3_walk_26 (by decide) (fun cc26 => ?_) (fun cc26 => ?_)
        · have hf := if_f cc26 hf
          exact W.vret hx hb hr (fun t ht hW => ⟨⟨X4, rfl, Option.some.inj hf, by rw [ht]; exact hP, hD⟩, hS.F ht⟩) hS.2.2 dX3_walk_42
        · have hf := if_t cc26 hf
          refine lv_aload_n hx hb dX3_walk_29 rfl (lv_at hl 0 rfl) ?_
          refine lv_aload_n hx hb dX3_walk_30 rfl (lv_at hl 1 rfl) ?_
          refine lv_aload_n hx hb dX3_walk_31 rfl (lv_at hl 2 rfl) ?_
          refine lv_iload_n hx hb dX3_walk_32 rfl (lv_at hl 3 rfl) ?_
          obtain ⟨q5, hq5, hf⟩ := bd_x hf
          have hFc := freeS hD hS hA
          refine va_callv (va_runV (As := [.ref (a1 0), .ref (a2 0), .int p1]) (rest := []) ⟨hx, hb, hml, hown, hG⟩ (c_X3_step l D cI cZ a a1 a2 X4 x1 x2 p1 H.size hq5) (cwV 3 hG (gV g_440 g_441 g_25 g_75 g_442) rfl rfl rfl (by decide +kernel) ⟨Nat.le_of_ble_eq_true rfl, Nat.le_of_ble_eq_true rfl⟩) ⟨pre_blind, va_recv hK hP (ci := 3) (q0 := 0) rfl rfl, fun U hU hW => ⟨rfl, pre_of hP hK hD hnw hU hW⟩⟩ rfl rfl hl.1 rfl (lv_room (Nat.le_of_ble_eq_true rfl)) dX3_walk_33 ⟨Nat.le_of_ble_eq_true rfl, Nat.le_of_ble_eq_true rfl⟩) hS (fun q _ h => hFc q h) hFc (fun u t H locs ht hvm hw hB hz1 hk1 hS => ?_)
          have hw := hw.symm; subst hw
          obtain ⟨hP1, hD1⟩ := hB
          rw [ht] at hP1
          have hP := hP1
          have hD := hD1.weaken (fun _ q _ h => hFc q.1 h)
          obtain ⟨v6, ev6⟩ : ∃ y : Int32, y = (v3 + (1 : Int32)) := ⟨_, rfl⟩
          have hf := nm_x ev6 hf
          refine lv_iinc (v := v6) (lv' := [(4, .int v6), (0, .ref (a 0)), (1, .ref (a1 0)), (2, .ref (a2 0)), (3, .int p1)]) hx hb dX3_walk_36 hl (k := 4) rfl (by rw [ev6]; rfl) (by decide) rfl (fun ls hl => ?_)
          refine lv_goto (tgt := 13) hx hb dX3_walk_39 (by decide) ?_
          exact ih13 v6 q5 _ _ _ hP hD hS (lv_sub hl [1, 2, 3, 4, 0] rfl) hf
  exact L13 FU (0 : Int32) X2 _ _ _ hP hD hS (lv_sub hl [1, 2, 3, 4, 0] rfl) hf
def f_X3_lengthOfPlan_b5 (x : HC) (x1 : HC) (rc5 : Int32 → Option (Int32)) (v2 : Int32) : Option (Int32) := (if v2 ≤ 0 then some (0 : Int32) else (if inb (v2 - (1 : Int32)) 6 then (if inb (x 1 (Int32.toNatClampNeg (v2 - (1 : Int32)))) 6 then (if (x1 7 (Int32.toNatClampNeg (x 1 (Int32.toNatClampNeg (v2 - (1 : Int32)))))) ≤ 0 then nm (v2 + (-1 : Int32)) (fun (v3 : Int32) => rc5 v3) else some v2) else none) else none))
def f_X3_lengthOfPlan (x : HC) (x1 : HC) : Option (Int32) := nm (x 0 2) (fun (v1 : Int32) => lp (fun _ => none : Int32 → Option (Int32)) (f_X3_lengthOfPlan_b5 x x1) FU v1)
abbrev RM_X3_lengthOfPlan : Room := { frames := 0, cells := 0, slots := 0, locals := 0 }
set_option maxHeartbeats 4000000 in
set_option maxRecDepth 100000 in
theorem c_X3_lengthOfPlan (l : Launch) (D : va_G) (cI cZ : ClassId) (a a1 : Nat → Nat) (x : HC) (x1 : HC) (sz : Nat) {r : Int32} (hf : f_X3_lengthOfPlan x x1 = some r) : Met l yX3_lengthOfPlan (wM yX3_lengthOfPlan cX3_lengthOfPlan 3 (some .int)) RM_X3_lengthOfPlan (va_Pc [.ref (a 0), .ref (a1 0)] (pre D cI cZ (kP cI a x ++ (kL cI a1 x1)) sz)) (QI0 D (va_A (kP cI a x ++ (kL cI a1 x1)) sz) (kP cI a x ++ (kL cI a1 x1)) r) 0 0 (va_A (kP cI a x ++ (kL cI a1 x1)) sz) := by
  unfold f_X3_lengthOfPlan at hf
  refine Met.ofW (cc := cX3_lengthOfPlan) (maxL := 3) (ret := (some .int)) (by decide) rfl ?_
  intro p e s m args below meth c s₁ B hml hv
  obtain ⟨rfl, hsz, hP, hK, hD0, hnw⟩ := hv
  have hx := B.exec
  have hb := B.bytes
  have hr := B.returns
  have hts := atoms_spec (ws := wM yX3_lengthOfPlan cX3_lengthOfPlan 3 (some .int)) B.pre
  have hG : ∀ w ∈ GW, w.before (([.ref (a 0), .ref (a1 0)] : List Value).toArray) s = true := fun w h => hts w (List.mem_cons_of_mem _ h)
  have hown : s.vm.findClass RX3 = some m.cls := findClass_of_methodNamed B.named
  have hlocks := B.notSynchronized
  subst hsz
  have hD := hD0.self (sz := s.heap.size)
  generalize hAe : va_A (kP cI a x ++ (kL cI a1 x1)) s.heap.size = A at hD ⊢
  have hA : ∀ q : Nat, s.heap.size ≤ q → A q := fun q h => by rw [← hAe]; exact Or.inr h
  have hS : va_S A s.heap s.heap [] := va_S.rf
  have hl := lv_entry ([.ref (a 0), .ref (a1 0)]) (n := 3) (Nat.le_of_ble_eq_true rfl)
  rw [lg_entry_eq]
  generalize (lg_sl ([.ref (a 0), .ref (a1 0)]) ++ List.replicate (3 - (lg_sl ([.ref (a 0), .ref (a1 0)])).length) Slot.unset).toArray = ls at hl ⊢
  have hl : lv_has ls 3 [(0, .ref (a 0)), (1, .ref (a1 0))] := hl
  show W p l e RM_X3_lengthOfPlan s m (([.ref (a 0), .ref (a1 0)] : List Value).toArray) below meth c s.heap [] 0 0 (MQ below (QI0 D A (kP cI a x ++ (kL cI a1 x1)) r) (([.ref (a 0), .ref (a1 0)] : List Value).toArray) s 0 0 A) (F0 m 0 ls [])
  refine lv_aload_n hx hb dX3_lengthOfPlan_0 rfl (lv_at hl 0 rfl) ?_
  refine va_get (D := D) (ci := 3) (v := .int (x 0 2)) (C := RX3) (T := TX3) (N := 4) hx hb hG inG3 hown hK hP 0 at_PL_0_0 rfl 2 (by decide) (hG _ g_212) (fun _ h9 => h9) rfl dX3_lengthOfPlan_1 ?_
  refine lv_topi (fun v1 ev1 => ?_)
  have hf := nm_x ev1 hf
  refine lv_istore_n (lv' := [(2, .int v1), (0, .ref (a 0)), (1, .ref (a1 0))]) hx hb dX3_lengthOfPlan_4 rfl hl (by decide) rfl (fun ls hl => ?_)
  have L5 : ∀ (n : Nat) (v2 : Int32) (H : Heap) (locs : List Loc) (ls : Array Slot), va_P D vwCl (kP cI a x ++ (kL cI a1 x1)) H → va_D A (kP cI a x ++ (kL cI a1 x1)) → va_S A s.heap H locs → lv_has ls 3 [(0, .ref (a 0)), (1, .ref (a1 0)), (2, .int v2)] → lp (fun _ => none : Int32 → Option (Int32)) (f_X3_lengthOfPlan_b5 x x1) n v2 = some r → W p l e RM_X3_lengthOfPlan s m (([.ref (a 0), .ref (a1 0)] : List Value).toArray) below meth c H locs 0 0 (MQ below (QI0 D A (kP cI a x ++ (kL cI a1 x1)) r) (([.ref (a 0), .ref (a1 0)] : List Value).toArray) s 0 0 A) (F0 m 5 ls []) := by
    intro n
    induction n with
    | zero => intro v2 H locs ls _ _ _ _ hf; cases (show (none : Option (Int32)) = some r from hf)
    | succ n ih5 =>
      intro v2 H locs ls hP hD hS hl hf
      have hf : (f_X3_lengthOfPlan_b5 x x1) (lp (fun _ => none : Int32 → Option (Int32)) (f_X3_lengthOfPlan_b5 x x1) n) v2 = some r := hf
      generalize lp (fun _ => none : Int32 → Option (Int32)) (f_X3_lengthOfPlan_b5 x x1) n = rc5 at ih5 hf
      unfold f_X3_lengthOfPlan_b5 at hf
      refine lv_iload_n hx hb dX3_lengthOfPlan_5 rfl (lv_at hl 2 rfl) ?_
      refine lv_if_le (tgt := 33) hx hb dX3_lengthOfPlan_6 (by decide) (fun cc6 => ?_) (fun cc6 => ?_)
      · have hf := if_t cc6 hf
        refine lv_iconst (v := (0 : Int32)) hx hb dX3_lengthOfPlan_33 (by decide) ?_
        exact W.iret (v := (0 : Int32)) hx hb hr (fun t ht hW => ⟨⟨(0 : Int32), (), rfl, Option.some.inj hf, by rw [ht]; exact hP, hD⟩, hS.F ht⟩) hS.2.2 dX3_lengthOfPlan_34
      · have hf := if_f cc6 hf
        refine lv_aload_n hx hb dX3_lengthOfPlan_9 rfl (lv_at hl 1 rfl) ?_
        refine va_get (D := D) (ci := 2) (v := .ref (a1 7)) (C := RX2) (T := TX2) (N := 18) hx hb hG inG2 hown hK hP 3 at_PL_1_0 rfl 12 (by decide) (hG _ g_149) (fun _ h9 => h9) rfl dX3_lengthOfPlan_10 ?_
        refine lv_aload_n hx hb dX3_lengthOfPlan_13 rfl (lv_at hl 0 rfl) ?_
        refine va_get (D := D) (ci := 3) (v := .ref (a 1)) (C := RX3) (T := TX3) (N := 4) hx hb hG inG3 hown hK hP 0 at_PL_0_0 rfl 0 (by decide) (hG _ g_208) (fun _ h9 => h9) rfl dX3_lengthOfPlan_14 ?_
        refine lv_iload_n hx hb dX3_lengthOfPlan_17 rfl (lv_at hl 2 rfl) ?_
        refine lv_iconst (v := (1 : Int32)) hx hb dX3_lengthOfPlan_18 (by decide) ?_
        refine lv_isub hx hb dX3_lengthOfPlan_19 ?_
        obtain ⟨hb20, hf⟩ := gd hf
        refine va_iald (cA := cI) (n := 6) (f := x 1) hx hb hK hP 1 0 at_PL_0_1 rfl (inb_in hb20) dX3_lengthOfPlan_20 ?_
        obtain ⟨hb21, hf⟩ := gd hf
        refine va_iald (cA := cI) (n := 6) (f := x1 7) hx hb hK hP 10 0 at_PL_1_7 rfl (inb_in hb21) dX3_lengthOfPlan_21 ?_
        refine lv_if_le (tgt := 27) hx hb dX3_lengthOfPlan_22 (by decide) (fun cc22 => ?_) (fun cc22 => ?_)
        · have hf := if_t cc22 hf
          obtain ⟨v3, ev3⟩ : ∃ y : Int32, y = (v2 + (-1 : Int32)) := ⟨_, rfl⟩
          have hf := nm_x ev3 hf
          refine lv_iinc (v := v3) (lv' := [(2, .int v3), (0, .ref (a 0)), (1, .ref (a1 0))]) hx hb dX3_lengthOfPlan_27 hl (k := 2) rfl (by rw [ev3]; rfl) (by decide) rfl (fun ls hl => ?_)
          refine lv_goto (tgt := 5) hx hb dX3_lengthOfPlan_30 (by decide) ?_
          exact ih5 v3 _ _ _ hP hD hS (lv_sub hl [1, 2, 0] rfl) hf
        · have hf := if_f cc22 hf
          refine lv_iload_n hx hb dX3_lengthOfPlan_25 rfl (lv_at hl 2 rfl) ?_
          exact W.iret (v := v2) hx hb hr (fun t ht hW => ⟨⟨v2, (), rfl, Option.some.inj hf, by rw [ht]; exact hP, hD⟩, hS.F ht⟩) hS.2.2 dX3_lengthOfPlan_26
  exact L5 FU v1 _ _ _ hP hD hS (lv_sub hl [1, 2, 0] rfl) hf
def f_X4_begin_b41 (x1 : HC) (rc41 : Int32 → HC → Option (HC)) (v3 : Int32) (X4 : HC) : Option (HC) := (if (30 : Int32) ≤ v3 then nm (sf X4 4 (0 : Int32)) (fun (X5 : HC) => some X5) else (if inb v3 30 then (if inb v3 30 then nm (sa X4 4 v3 (x1 12 (Int32.toNatClampNeg v3))) (fun (X6 : HC) => nm (v3 + (1 : Int32)) (fun (v7 : Int32) => rc41 v7 X6)) else none) else none))
def f_X4_begin_b2 (x1 : HC) (rc2 : Int32 → HC → Option (HC)) (v1 : Int32) (X2 : HC) : Option (HC) := (if (5 : Int32) ≤ v1 then lp (fun _ _ => none : Int32 → HC → Option (HC)) (f_X4_begin_b41 x1) FU (0 : Int32) X2 else (if inb v1 5 then (if inb v1 5 then nm (sa X2 1 v1 (x1 3 (Int32.toNatClampNeg v1))) (fun (X8 : HC) => (if inb v1 5 then nm (sa X8 2 v1 (0 : Int32)) (fun (X9 : HC) => (if inb v1 5 then nm (sa X9 3 v1 (0 : Int32)) (fun (X10 : HC) => nm (v1 + (1 : Int32)) (fun (v11 : Int32) => rc2 v11 X10)) else none)) else none)) else none) else none))
def f_X4_begin (x : HC) (x1 : HC) : Option (HC) := lp (fun _ _ => none : Int32 → HC → Option (HC)) (f_X4_begin_b2 x1) FU (0 : Int32) x
abbrev RM_X4_begin : Room := { frames := 0, cells := 0, slots := 0, locals := 0 }
set_option maxHeartbeats 4000000 in
set_option maxRecDepth 100000 in
theorem c_X4_begin (l : Launch) (D : va_G) (cI cZ : ClassId) (a a1 : Nat → Nat) (x : HC) (x1 : HC) (sz : Nat) {r : HC} (hf : f_X4_begin x x1 = some r) : Met l yX4_begin (wM yX4_begin cX4_begin 3 none) RM_X4_begin (va_Pc [.ref (a 0), .ref (a1 0)] (pre D cI cZ (kS cI a x ++ (kL cI a1 x1)) sz)) (QV D (va_A (kS cI a x ++ (kL cI a1 x1)) sz) (fun (u : HC) => (kS cI a u ++ (kL cI a1 x1))) r) 0 0 (va_A (kS cI a x ++ (kL cI a1 x1)) sz) := by
  unfold f_X4_begin at hf
  refine Met.ofW (cc := cX4_begin) (maxL := 3) (ret := none) (by decide) rfl ?_
  intro p e s m args below meth c s₁ B hml hv
  obtain ⟨rfl, hsz, hP, hK, hD0, hnw⟩ := hv
  have hx := B.exec
  have hb := B.bytes
  have hr := B.returns
  have hts := atoms_spec (ws := wM yX4_begin cX4_begin 3 none) B.pre
  have hG : ∀ w ∈ GW, w.before (([.ref (a 0), .ref (a1 0)] : List Value).toArray) s = true := fun w h => hts w (List.mem_cons_of_mem _ h)
  have hown : s.vm.findClass RX4 = some m.cls := findClass_of_methodNamed B.named
  have hlocks := B.notSynchronized
  subst hsz
  have hD := hD0.self (sz := s.heap.size)
  generalize hAe : va_A (kS cI a x ++ (kL cI a1 x1)) s.heap.size = A at hD ⊢
  have hA : ∀ q : Nat, s.heap.size ≤ q → A q := fun q h => by rw [← hAe]; exact Or.inr h
  have hS : va_S A s.heap s.heap [] := va_S.rf
  have hl := lv_entry ([.ref (a 0), .ref (a1 0)]) (n := 3) (Nat.le_of_ble_eq_true rfl)
  rw [lg_entry_eq]
  generalize (lg_sl ([.ref (a 0), .ref (a1 0)]) ++ List.replicate (3 - (lg_sl ([.ref (a 0), .ref (a1 0)])).length) Slot.unset).toArray = ls at hl ⊢
  have hl : lv_has ls 3 [(0, .ref (a 0)), (1, .ref (a1 0))] := hl
  show W p l e RM_X4_begin s m (([.ref (a 0), .ref (a1 0)] : List Value).toArray) below meth c s.heap [] 0 0 (MQ below (QV D A (fun (u : HC) => (kS cI a u ++ (kL cI a1 x1))) r) (([.ref (a 0), .ref (a1 0)] : List Value).toArray) s 0 0 A) (F0 m 0 ls [])
  refine lv_iconst (v := (0 : Int32)) hx hb dX4_begin_0 (by decide) ?_
  refine lv_istore_n (lv' := [(2, .int (0 : Int32)), (0, .ref (a 0)), (1, .ref (a1 0))]) hx hb dX4_begin_1 rfl hl (by decide) rfl (fun ls hl => ?_)
  have L2 : ∀ (n : Nat) (v1 : Int32) (X2 : HC) (H : Heap) (locs : List Loc) (ls : Array Slot), va_P D vwCl (kS cI a X2 ++ (kL cI a1 x1)) H → va_D A (kS cI a X2 ++ (kL cI a1 x1)) → va_S A s.heap H locs → lv_has ls 3 [(0, .ref (a 0)), (1, .ref (a1 0)), (2, .int v1)] → lp (fun _ _ => none : Int32 → HC → Option (HC)) (f_X4_begin_b2 x1) n v1 X2 = some r → W p l e RM_X4_begin s m (([.ref (a 0), .ref (a1 0)] : List Value).toArray) below meth c H locs 0 0 (MQ below (QV D A (fun (u : HC) => (kS cI a u ++ (kL cI a1 x1))) r) (([.ref (a 0), .ref (a1 0)] : List Value).toArray) s 0 0 A) (F0 m 2 ls []) := by
    intro n
    induction n with
    | zero => intro v1 X2 H locs ls _ _ _ _ hf; cases (show (none : Option (HC)) = some r from hf)
    | succ n ih2 =>
      intro v1 X2 H locs ls hP hD hS hl hf
      have hf : (f_X4_begin_b2 x1) (lp (fun _ _ => none : Int32 → HC → Option (HC)) (f_X4_begin_b2 x1) n) v1 X2 = some r := hf
      generalize lp (fun _ _ => none : Int32 → HC → Option (HC)) (f_X4_begin_b2 x1) n = rc2 at ih2 hf
      unfold f_X4_begin_b2 at hf
      refine lv_iload_n hx hb dX4_begin_2 rfl (lv_at hl 2 rfl) ?_
      refine lv_iconst (v := (5 : Int32)) hx hb dX4_begin_3 (by decide) ?_
      refine lv_icmp_ge (tgt := 39) hx hb dX4_begin_4 (by decide) (fun cc4 => ?_) (fun cc4 => ?_)
      · have hf := if_t cc4 hf
        refine lv_iconst (v := (0 : Int32)) hx hb dX4_begin_39 (by decide) ?_
        refine lv_istore_n (lv' := [(2, .int (0 : Int32)), (0, .ref (a 0)), (1, .ref (a1 0))]) hx hb dX4_begin_40 rfl hl (by decide) rfl (fun ls hl => ?_)
        have L41 : ∀ (n : Nat) (v3 : Int32) (X4 : HC) (H : Heap) (locs : List Loc) (ls : Array Slot), va_P D vwCl (kS cI a X4 ++ (kL cI a1 x1)) H → va_D A (kS cI a X4 ++ (kL cI a1 x1)) → va_S A s.heap H locs → lv_has ls 3 [(0, .ref (a 0)), (1, .ref (a1 0)), (2, .int v3)] → lp (fun _ _ => none : Int32 → HC → Option (HC)) (f_X4_begin_b41 x1) n v3 X4 = some r → W p l e RM_X4_begin s m (([.ref (a 0), .ref (a1 0)] : List Value).toArray) below meth c H locs 0 0 (MQ below (QV D A (fun (u : HC) => (kS cI a u ++ (kL cI a1 x1))) r) (([.ref (a 0), .ref (a1 0)] : List Value).toArray) s 0 0 A) (F0 m 41 ls []) := by
          intro n
          induction n with
          | zero => intro v3 X4 H locs ls _ _ _ _ hf; cases (show (none : Option (HC)) = some r from hf)
          | succ n ih41 =>
            intro v3 X4 H locs ls hP hD hS hl hf
            have hf : (f_X4_begin_b41 x1) (lp (fun _ _ => none : Int32 → HC → Option (HC)) (f_X4_begin_b41 x1) n) v3 X4 = some r := hf
            generalize lp (fun _ _ => none : Int32 → HC → Option (HC)) (f_X4_begin_b41 x1) n = rc41 at ih41 hf
            unfold f_X4_begin_b41 at hf
            refine lv_iload_n hx hb dX4_begin_41 rfl (lv_at hl 2 rfl) ?_
            refine lv_bipush (v := (30 : Int32)) hx hb dX4_begin_42 (by decide) ?_
            refine lv_icmp_ge (tgt := 65) hx hb dX4_begin_44 (by decide) (fun cc44 => ?_) (fun cc44 => ?_)
            · have hf := if_t cc44 hf
              refine lv_aload_n hx hb dX4_begin_65 rfl (lv_at hl 0 rfl) ?_
              refine lv_iconst (v := (0 : Int32)) hx hb dX4_begin_66 (by decide) ?_
              refine va_put (D := D) (ci := 4) (v := .int (0 : Int32)) (ty := .int) (C := RX4) (T := TX4) (N := 7) hx hb hG inG4 tyX4 tyX4_ok nmX4 hown hK hP hD hS 0 at_SL_0_0 rfl 4 (by decide) (hG _ g_187) (fun _ h9 => h9) rfl (by decide +kernel) rfl rfl (Nat.le_of_ble_eq_true rfl) dX4_begin_67 (fun H locs hP hD hS => ?_)
              obtain ⟨X5, eX5⟩ : ∃ y : HC, y = (sf X4 4 (0 : Int32)) := ⟨_, rfl⟩
              have hf := nm_x eX5 hf
              have hP := wP (sf_SL_0_4.trans (congrArg (fun z : HC => (kS cI a z ++ (kL cI a1 x1))) eX5.symm)) hP
              have hD := wD (sf_SL_0_4.trans (congrArg (fun z : HC => (kS cI a z ++ (kL cI a1 x1))) eX5.symm)) hD
              exact W.vret hx hb hr (fun t ht hW => ⟨⟨X5, rfl, Option.some.inj hf, by rw [ht]; exact hP, hD⟩, hS.F ht⟩) hS.2.2 dX4_begin_70
            · have hf := if_f cc44 hf
              refine lv_aload_n hx hb dX4_begin_47 rfl (lv_at hl 0 rfl) ?_
              refine va_get (D := D) (ci := 4) (v := .ref (a 4)) (C := RX4) (T := TX4) (N := 7) hx hb hG inG4 hown hK hP 0 at_SL_0_0 rfl 3 (by decide) (hG _ g_182) (fun _ h9 => h9) rfl dX4_begin_48 ?_
              refine lv_iload_n hx hb dX4_begin_51 rfl (lv_at hl 2 rfl) ?_
              refine lv_aload_n hx hb dX4_begin_52 rfl (lv_at hl 1 rfl) ?_
              refine va_get (D := D) (ci := 2) (v := .ref (a1 12)) (C := RX2) (T := TX2) (N := 18) hx hb hG inG2 hown hK hP 5 at_SL_1_0 rfl 17 (by decide) (hG _ g_165) (fun _ h9 => h9) rfl dX4_begin_53 ?_
              refine lv_iload_n hx hb dX4_begin_56 rfl (lv_at hl 2 rfl) ?_
              obtain ⟨hb57, hf⟩ := gd hf
              refine va_iald (cA := cI) (n := 30) (f := x1 12) hx hb hK hP 17 0 at_SL_1_12 rfl (inb_in hb57) dX4_begin_57 ?_
              obtain ⟨hb58, hf⟩ := gd hf
              refine va_iast (cA := cI) (n := 30) (f := X4 4) hx hb hK hP hD hS 4 0 at_SL_0_4 rfl (inb_in hb58) dX4_begin_58 (fun H locs hP hD hS => ?_)
              obtain ⟨X6, eX6⟩ : ∃ y : HC, y = (sa X4 4 v3 (x1 12 (Int32.toNatClampNeg v3))) := ⟨_, rfl⟩
              have hf := nm_x eX6 hf
              have hP := wP (sa_SL_0_4.trans (congrArg (fun z : HC => (kS cI a z ++ (kL cI a1 x1))) eX6.symm)) hP
              have hD := wD (sa_SL_0_4.trans (congrArg (fun z : HC => (kS cI a z ++ (kL cI a1 x1))) eX6.symm)) hD
              obtain ⟨v7, ev7⟩ : ∃ y : Int32, y = (v3 + (1 : Int32)) := ⟨_, rfl⟩
              have hf := nm_x ev7 hf
              refine lv_iinc (v := v7) (lv' := [(2, .int v7), (0, .ref (a 0)), (1, .ref (a1 0))]) hx hb dX4_begin_59 hl (k := 2) rfl (by rw [ev7]; rfl) (by decide) rfl (fun ls hl => ?_)
              refine lv_goto (tgt := 41) hx hb dX4_begin_62 (by decide) ?_
              exact ih41 v7 X6 _ _ _ hP hD hS (lv_sub hl [1, 2, 0] rfl) hf
        exact L41 FU (0 : Int32) X2 _ _ _ hP hD hS (lv_sub hl [1, 2, 0] rfl) hf
      · have hf := if_f cc4 hf
        refine lv_aload_n hx hb dX4_begin_7 rfl (lv_at hl 0 rfl) ?_
        refine va_get (D := D) (ci := 4) (v := .ref (a 1)) (C := RX4) (T := TX4) (N := 7) hx hb hG inG4 hown hK hP 0 at_SL_0_0 rfl 0 (by decide) (hG _ g_173) (fun _ h9 => h9) rfl dX4_begin_8 ?_
        refine lv_iload_n hx hb dX4_begin_11 rfl (lv_at hl 2 rfl) ?_
        refine lv_aload_n hx hb dX4_begin_12 rfl (lv_at hl 1 rfl) ?_
        refine va_get (D := D) (ci := 2) (v := .ref (a1 3)) (C := RX2) (T := TX2) (N := 18) hx hb hG inG2 hown hK hP 5 at_SL_1_0 rfl 8 (by decide) (hG _ g_136) (fun _ h9 => h9) rfl dX4_begin_13 ?_
        refine lv_iload_n hx hb dX4_begin_16 rfl (lv_at hl 2 rfl) ?_
        obtain ⟨hb17, hf⟩ := gd hf
        refine va_iald (cA := cI) (n := 5) (f := x1 3) hx hb hK hP 8 0 at_SL_1_3 rfl (inb_in hb17) dX4_begin_17 ?_
        obtain ⟨hb18, hf⟩ := gd hf
        refine va_iast (cA := cI) (n := 5) (f := X2 1) hx hb hK hP hD hS 1 0 at_SL_0_1 rfl (inb_in hb18) dX4_begin_18 (fun H locs hP hD hS => ?_)
        obtain ⟨X8, eX8⟩ : ∃ y : HC, y = (sa X2 1 v1 (x1 3 (Int32.toNatClampNeg v1))) := ⟨_, rfl⟩
        have hf := nm_x eX8 hf
        have hP := wP (sa_SL_0_1.trans (congrArg (fun z : HC => (kS cI a z ++ (kL cI a1 x1))) eX8.symm)) hP
        have hD := wD (sa_SL_0_1.trans (congrArg (fun z : HC => (kS cI a z ++ (kL cI a1 x1))) eX8.symm)) hD
        refine lv_aload_n hx hb dX4_begin_19 rfl (lv_at hl 0 rfl) ?_
        refine va_get (D := D) (ci := 4) (v := .ref (a 2)) (C := RX4) (T := TX4) (N := 7) hx hb hG inG4 hown hK hP 0 at_SL_0_0 rfl 1 (by decide) (hG _ g_176) (fun _ h9 => h9) rfl dX4_begin_20 ?_
        refine lv_iload_n hx hb dX4_begin_23 rfl (lv_at hl 2 rfl) ?_
        refine lv_iconst (v := (0 : Int32)) hx hb dX4_begin_24 (by decide) ?_
        obtain ⟨hb25, hf⟩ := gd hf
        refine va_iast (cA := cI) (n := 5) (f := X8 2) hx hb hK hP hD hS 2 0 at_SL_0_2 rfl (inb_in hb25) dX4_begin_25 (fun H locs hP hD hS => ?_)
        obtain ⟨X9, eX9⟩ : ∃ y : HC, y = (sa X8 2 v1 (0 : Int32)) := ⟨_, rfl⟩
        have hf := nm_x eX9 hf
        have hP := wP (sa_SL_0_2.trans (congrArg (fun z : HC => (kS cI a z ++ (kL cI a1 x1))) eX9.symm)) hP
        have hD := wD (sa_SL_0_2.trans (congrArg (fun z : HC => (kS cI a z ++ (kL cI a1 x1))) eX9.symm)) hD
        refine lv_aload_n hx hb dX4_begin_26 rfl (lv_at hl 0 rfl) ?_
        refine va_get (D := D) (ci := 4) (v := .ref (a 3)) (C := RX4) (T := TX4) (N := 7) hx hb hG inG4 hown hK hP 0 at_SL_0_0 rfl 2 (by decide) (hG _ g_179) (fun _ h9 => h9) rfl dX4_begin_27 ?_
        refine lv_iload_n hx hb dX4_begin_30 rfl (lv_at hl 2 rfl) ?_
        refine lv_iconst (v := (0 : Int32)) hx hb dX4_begin_31 (by decide) ?_
        obtain ⟨hb32, hf⟩ := gd hf
        refine va_iast (cA := cI) (n := 5) (f := X9 3) hx hb hK hP hD hS 3 0 at_SL_0_3 rfl (inb_in hb32) dX4_begin_32 (fun H locs hP hD hS => ?_)
        obtain ⟨X10, eX10⟩ : ∃ y : HC, y = (sa X9 3 v1 (0 : Int32)) := ⟨_, rfl⟩
        have hf := nm_x eX10 hf
        have hP := wP (sa_SL_0_3.trans (congrArg (fun z : HC => (kS cI a z ++ (kL cI a1 x1))) eX10.symm)) hP
        have hD := wD (sa_SL_0_3.trans (congrArg (fun z : HC => (kS cI a z ++ (kL cI a1 x1))) eX10.symm)) hD
        obtain ⟨v11, ev11⟩ : ∃ y : Int32, y = (v1 + (1 : Int32)) := ⟨_, rfl⟩
        have hf := nm_x ev11 hf
        refine lv_iinc (v := v11) (lv' := [(2, .int v11), (0, .ref (a 0)), (1, .ref (a1 0))]) hx hb dX4_begin_33 hl (k := 2) rfl (by rw [ev11]; rfl) (by decide) rfl (fun ls hl => ?_)
        refine lv_goto (tgt := 2) hx hb dX4_begin_36 (by decide) ?_
        exact ih2 v11 X10 _ _ _ hP hD hS (lv_sub hl [1, 2, 0] rfl) hf
  exact L2 FU (0 : Int32) x _ _ _ hP hD hS (lv_sub hl [1, 2, 0] rfl) hf
def f_X4_become_b51 (x1 : HC) (rc51 : Int32 → HC → Option (HC)) (v3 : Int32) (X4 : HC) : Option (HC) := (if (30 : Int32) ≤ v3 then nm (sf X4 4 (x1 0 4)) (fun (X5 : HC) => nm (sf X5 5 (x1 0 5)) (fun (X6 : HC) => some X6)) else (if inb v3 30 then (if inb v3 30 then nm (sa X4 4 v3 (x1 4 (Int32.toNatClampNeg v3))) (fun (X7 : HC) => nm (v3 + (1 : Int32)) (fun (v8 : Int32) => rc51 v8 X7)) else none) else none))
def f_X4_become_b2 (x1 : HC) (rc2 : Int32 → HC → Option (HC)) (v1 : Int32) (X2 : HC) : Option (HC) := (if (5 : Int32) ≤ v1 then lp (fun _ _ => none : Int32 → HC → Option (HC)) (f_X4_become_b51 x1) FU (0 : Int32) X2 else (if inb v1 5 then (if inb v1 5 then nm (sa X2 1 v1 (x1 1 (Int32.toNatClampNeg v1))) (fun (X9 : HC) => (if inb v1 5 then (if inb v1 5 then nm (sa X9 2 v1 (x1 2 (Int32.toNatClampNeg v1))) (fun (X10 : HC) => (if inb v1 5 then (if inb v1 5 then nm (sa X10 3 v1 (x1 3 (Int32.toNatClampNeg v1))) (fun (X11 : HC) => nm (v1 + (1 : Int32)) (fun (v12 : Int32) => rc2 v12 X11)) else none) else none)) else none) else none)) else none) else none))
def f_X4_become (x : HC) (x1 : HC) : Option (HC) := lp (fun _ _ => none : Int32 → HC → Option (HC)) (f_X4_become_b2 x1) FU (0 : Int32) x
abbrev RM_X4_become : Room := { frames := 0, cells := 0, slots := 0, locals := 0 }
set_option maxHeartbeats 4000000 in
set_option maxRecDepth 100000 in
theorem c_X4_become (l : Launch) (D : va_G) (cI cZ : ClassId) (a a1 : Nat → Nat) (x : HC) (x1 : HC) (sz : Nat) {r : HC} (hf : f_X4_become x x1 = some r) : Met l yX4_become (wM yX4_become cX4_become 3 none) RM_X4_become (va_Pc [.ref (a 0), .ref (a1 0)] (pre D cI cZ (kS cI a x ++ (kS cI a1 x1)) sz)) (QV D (va_A (kS cI a x ++ (kS cI a1 x1)) sz) (fun (u : HC) => (kS cI a u ++ (kS cI a1 x1))) r) 0 0 (va_A (kS cI a x ++ (kS cI a1 x1)) sz) := by
  unfold f_X4_become at hf
  refine Met.ofW (cc := cX4_become) (maxL := 3) (ret := none) (by decide) rfl ?_
  intro p e s m args below meth c s₁ B hml hv
  obtain ⟨rfl, hsz, hP, hK, hD0, hnw⟩ := hv
  have hx := B.exec
  have hb := B.bytes
  have hr := B.returns
  have hts := atoms_spec (ws := wM yX4_become cX4_become 3 none) B.pre
  have hG : ∀ w ∈ GW, w.before (([.ref (a 0), .ref (a1 0)] : List Value).toArray) s = true := fun w h => hts w (List.mem_cons_of_mem _ h)
  have hown : s.vm.findClass RX4 = some m.cls := findClass_of_methodNamed B.named
  have hlocks := B.notSynchronized
  subst hsz
  have hD := hD0.self (sz := s.heap.size)
  generalize hAe : va_A (kS cI a x ++ (kS cI a1 x1)) s.heap.size = A at hD ⊢
  have hA : ∀ q : Nat, s.heap.size ≤ q → A q := fun q h => by rw [← hAe]; exact Or.inr h
  have hS : va_S A s.heap s.heap [] := va_S.rf
  have hl := lv_entry ([.ref (a 0), .ref (a1 0)]) (n := 3) (Nat.le_of_ble_eq_true rfl)
  rw [lg_entry_eq]
  generalize (lg_sl ([.ref (a 0), .ref (a1 0)]) ++ List.replicate (3 - (lg_sl ([.ref (a 0), .ref (a1 0)])).length) Slot.unset).toArray = ls at hl ⊢
  have hl : lv_has ls 3 [(0, .ref (a 0)), (1, .ref (a1 0))] := hl
  show W p l e RM_X4_become s m (([.ref (a 0), .ref (a1 0)] : List Value).toArray) below meth c s.heap [] 0 0 (MQ below (QV D A (fun (u : HC) => (kS cI a u ++ (kS cI a1 x1))) r) (([.ref (a 0), .ref (a1 0)] : List Value).toArray) s 0 0 A) (F0 m 0 ls [])
  refine lv_iconst (v := (0 : Int32)) hx hb dX4_become_0 (by decide) ?_
  refine lv_istore_n (lv' := [(2, .int (0 : Int32)), (0, .ref (a 0)), (1, .ref (a1 0))]) hx hb dX4_become_1 rfl hl (by decide) rfl (fun ls hl => ?_)
  have L2 : ∀ (n : Nat) (v1 : Int32) (X2 : HC) (H : Heap) (locs : List Loc) (ls : Array Slot), va_P D vwCl (kS cI a X2 ++ (kS cI a1 x1)) H → va_D A (kS cI a X2 ++ (kS cI a1 x1)) → va_S A s.heap H locs → lv_has ls 3 [(0, .ref (a 0)), (1, .ref (a1 0)), (2, .int v1)] → lp (fun _ _ => none : Int32 → HC → Option (HC)) (f_X4_become_b2 x1) n v1 X2 = some r → W p l e RM_X4_become s m (([.ref (a 0), .ref (a1 0)] : List Value).toArray) below meth c H locs 0 0 (MQ below (QV D A (fun (u : HC) => (kS cI a u ++ (kS cI a1 x1))) r) (([.ref (a 0), .ref (a1 0)] : List Value).toArray) s 0 0 A) (F0 m 2 ls []) := by
    intro n
    induction n with
    | zero => intro v1 X2 H locs ls _ _ _ _ hf; cases (show (none : Option (HC)) = some r from hf)
    | succ n ih2 =>
      intro v1 X2 H locs ls hP hD hS hl hf
      have hf : (f_X4_become_b2 x1) (lp (fun _ _ => none : Int32 → HC → Option (HC)) (f_X4_become_b2 x1) n) v1 X2 = some r := hf
      generalize lp (fun _ _ => none : Int32 → HC → Option (HC)) (f_X4_become_b2 x1) n = rc2 at ih2 hf
      unfold f_X4_become_b2 at hf
      refine lv_iload_n hx hb dX4_become_2 rfl (lv_at hl 2 rfl) ?_
      refine lv_iconst (v := (5 : Int32)) hx hb dX4_become_3 (by decide) ?_
      refine lv_icmp_ge (tgt := 49) hx hb dX4_become_4 (by decide) (fun cc4 => ?_) (fun cc4 => ?_)
      · have hf := if_t cc4 hf
        refine lv_iconst (v := (0 : Int32)) hx hb dX4_become_49 (by decide) ?_
        refine lv_istore_n (lv' := [(2, .int (0 : Int32)), (0, .ref (a 0)), (1, .ref (a1 0))]) hx hb dX4_become_50 rfl hl (by decide) rfl (fun ls hl => ?_)
        have L51 : ∀ (n : Nat) (v3 : Int32) (X4 : HC) (H : Heap) (locs : List Loc) (ls : Array Slot), va_P D vwCl (kS cI a X4 ++ (kS cI a1 x1)) H → va_D A (kS cI a X4 ++ (kS cI a1 x1)) → va_S A s.heap H locs → lv_has ls 3 [(0, .ref (a 0)), (1, .ref (a1 0)), (2, .int v3)] → lp (fun _ _ => none : Int32 → HC → Option (HC)) (f_X4_become_b51 x1) n v3 X4 = some r → W p l e RM_X4_become s m (([.ref (a 0), .ref (a1 0)] : List Value).toArray) below meth c H locs 0 0 (MQ below (QV D A (fun (u : HC) => (kS cI a u ++ (kS cI a1 x1))) r) (([.ref (a 0), .ref (a1 0)] : List Value).toArray) s 0 0 A) (F0 m 51 ls []) := by
          intro n
          induction n with
          | zero => intro v3 X4 H locs ls _ _ _ _ hf; cases (show (none : Option (HC)) = some r from hf)
          | succ n ih51 =>
            intro v3 X4 H locs ls hP hD hS hl hf
            have hf : (f_X4_become_b51 x1) (lp (fun _ _ => none : Int32 → HC → Option (HC)) (f_X4_become_b51 x1) n) v3 X4 = some r := hf
            generalize lp (fun _ _ => none : Int32 → HC → Option (HC)) (f_X4_become_b51 x1) n = rc51 at ih51 hf
            unfold f_X4_become_b51 at hf
            refine lv_iload_n hx hb dX4_become_51 rfl (lv_at hl 2 rfl) ?_
            refine lv_bipush (v := (30 : Int32)) hx hb dX4_become_52 (by decide) ?_
            refine lv_icmp_ge (tgt := 75) hx hb dX4_become_54 (by decide) (fun cc54 => ?_) (fun cc54 => ?_)
            · have hf := if_t cc54 hf
              refine lv_aload_n hx hb dX4_become_75 rfl (lv_at hl 0 rfl) ?_
              refine lv_aload_n hx hb dX4_become_76 rfl (lv_at hl 1 rfl) ?_
              refine va_get (D := D) (ci := 4) (v := .int (x1 0 4)) (C := RX4) (T := TX4) (N := 7) hx hb hG inG4 hown hK hP 5 at_SS_1_0 rfl 4 (by decide) (hG _ g_187) (fun _ h9 => h9) rfl dX4_become_77 ?_
              refine va_put (D := D) (ci := 4) (v := .int (x1 0 4)) (ty := .int) (C := RX4) (T := TX4) (N := 7) hx hb hG inG4 tyX4 tyX4_ok nmX4 hown hK hP hD hS 0 at_SS_0_0 rfl 4 (by decide) (hG _ g_187) (fun _ h9 => h9) rfl (by decide +kernel) rfl rfl (Nat.le_of_ble_eq_true rfl) dX4_become_80 (fun H locs hP hD hS => ?_)
              obtain ⟨X5, eX5⟩ : ∃ y : HC, y = (sf X4 4 (x1 0 4)) := ⟨_, rfl⟩
              have hf := nm_x eX5 hf
              have hP := wP (sf_SS_0_4.trans (congrArg (fun z : HC => (kS cI a z ++ (kS cI a1 x1))) eX5.symm)) hP
              have hD := wD (sf_SS_0_4.trans (congrArg (fun z : HC => (kS cI a z ++ (kS cI a1 x1))) eX5.symm)) hD
              refine lv_aload_n hx hb dX4_become_83 rfl (lv_at hl 0 rfl) ?_
              refine lv_aload_n hx hb dX4_become_84 rfl (lv_at hl 1 rfl) ?_
              refine va_get (D := D) (ci := 4) (v := .int (x1 0 5)) (C := RX4) (T := TX4) (N := 7) hx hb hG inG4 hown hK hP 5 at_SS_1_0 rfl 5 (by decide) (hG _ g_189) (fun _ h9 => h9) rfl dX4_become_85 ?_
              refine va_put (D := D) (ci := 4) (v := .int (x1 0 5)) (ty := .int) (C := RX4) (T := TX4) (N := 7) hx hb hG inG4 tyX4 tyX4_ok nmX4 hown hK hP hD hS 0 at_SS_0_0 rfl 5 (by decide) (hG _ g_189) (fun _ h9 => h9) rfl (by decide +kernel) rfl rfl (Nat.le_of_ble_eq_true rfl) dX4_become_88 (fun H locs hP hD hS => ?_)
              obtain ⟨X6, eX6⟩ : ∃ y : HC, y = (sf X5 5 (x1 0 5)) := ⟨_, rfl⟩
              have hf := nm_x eX6 hf
              have hP := wP (sf_SS_0_5.trans (congrArg (fun z : HC => (kS cI a z ++ (kS cI a1 x1))) eX6.symm)) hP
              have hD := wD (sf_SS_0_5.trans (congrArg (fun z : HC => (kS cI a z ++ (kS cI a1 x1))) eX6.symm)) hD
              exact W.vret hx hb hr (fun t ht hW => ⟨⟨X6, rfl, Option.some.inj hf, by rw [ht]; exact hP, hD⟩, hS.F ht⟩) hS.2.2 dX4_become_91
            · have hf := if_f cc54 hf
              refine lv_aload_n hx hb dX4_become_57 rfl (lv_at hl 0 rfl) ?_
              refine va_get (D := D) (ci := 4) (v := .ref (a 4)) (C := RX4) (T := TX4) (N := 7) hx hb hG inG4 hown hK hP 0 at_SS_0_0 rfl 3 (by decide) (hG _ g_182) (fun _ h9 => h9) rfl dX4_become_58 ?_
              refine lv_iload_n hx hb dX4_become_61 rfl (lv_at hl 2 rfl) ?_
              refine lv_aload_n hx hb dX4_become_62 rfl (lv_at hl 1 rfl) ?_
              refine va_get (D := D) (ci := 4) (v := .ref (a1 4)) (C := RX4) (T := TX4) (N := 7) hx hb hG inG4 hown hK hP 5 at_SS_1_0 rfl 3 (by decide) (hG _ g_182) (fun _ h9 => h9) rfl dX4_become_63 ?_
              refine lv_iload_n hx hb dX4_become_66 rfl (lv_at hl 2 rfl) ?_
              obtain ⟨hb67, hf⟩ := gd hf
              refine va_iald (cA := cI) (n := 30) (f := x1 4) hx hb hK hP 9 0 at_SS_1_4 rfl (inb_in hb67) dX4_become_67 ?_
              obtain ⟨hb68, hf⟩ := gd hf
              refine va_iast (cA := cI) (n := 30) (f := X4 4) hx hb hK hP hD hS 4 0 at_SS_0_4 rfl (inb_in hb68) dX4_become_68 (fun H locs hP hD hS => ?_)
              obtain ⟨X7, eX7⟩ : ∃ y : HC, y = (sa X4 4 v3 (x1 4 (Int32.toNatClampNeg v3))) := ⟨_, rfl⟩
              have hf := nm_x eX7 hf
              have hP := wP (sa_SS_0_4.trans (congrArg (fun z : HC => (kS cI a z ++ (kS cI a1 x1))) eX7.symm)) hP
              have hD := wD (sa_SS_0_4.trans (congrArg (fun z : HC => (kS cI a z ++ (kS cI a1 x1))) eX7.symm)) hD
              obtain ⟨v8, ev8⟩ : ∃ y : Int32, y = (v3 + (1 : Int32)) := ⟨_, rfl⟩
              have hf := nm_x ev8 hf
              refine lv_iinc (v := v8) (lv' := [(2, .int v8), (0, .ref (a 0)), (1, .ref (a1 0))]) hx hb dX4_become_69 hl (k := 2) rfl (by rw [ev8]; rfl) (by decide) rfl (fun ls hl => ?_)
              refine lv_goto (tgt := 51) hx hb dX4_become_72 (by decide) ?_
              exact ih51 v8 X7 _ _ _ hP hD hS (lv_sub hl [1, 2, 0] rfl) hf
        exact L51 FU (0 : Int32) X2 _ _ _ hP hD hS (lv_sub hl [1, 2, 0] rfl) hf
      · have hf := if_f cc4 hf
        refine lv_aload_n hx hb dX4_become_7 rfl (lv_at hl 0 rfl) ?_
        refine va_get (D := D) (ci := 4) (v := .ref (a 1)) (C := RX4) (T := TX4) (N := 7) hx hb hG inG4 hown hK hP 0 at_SS_0_0 rfl 0 (by decide) (hG _ g_173) (fun _ h9 => h9) rfl dX4_become_8 ?_
        refine lv_iload_n hx hb dX4_become_11 rfl (lv_at hl 2 rfl) ?_
        refine lv_aload_n hx hb dX4_become_12 rfl (lv_at hl 1 rfl) ?_
        refine va_get (D := D) (ci := 4) (v := .ref (a1 1)) (C := RX4) (T := TX4) (N := 7) hx hb hG inG4 hown hK hP 5 at_SS_1_0 rfl 0 (by decide) (hG _ g_173) (fun _ h9 => h9) rfl dX4_become_13 ?_
        refine lv_iload_n hx hb dX4_become_16 rfl (lv_at hl 2 rfl) ?_
        obtain ⟨hb17, hf⟩ := gd hf
        refine va_iald (cA := cI) (n := 5) (f := x1 1) hx hb hK hP 6 0 at_SS_1_1 rfl (inb_in hb17) dX4_become_17 ?_
        obtain ⟨hb18, hf⟩ := gd hf
        refine va_iast (cA := cI) (n := 5) (f := X2 1) hx hb hK hP hD hS 1 0 at_SS_0_1 rfl (inb_in hb18) dX4_become_18 (fun H locs hP hD hS => ?_)
        obtain ⟨X9, eX9⟩ : ∃ y : HC, y = (sa X2 1 v1 (x1 1 (Int32.toNatClampNeg v1))) := ⟨_, rfl⟩
        have hf := nm_x eX9 hf
        have hP := wP (sa_SS_0_1.trans (congrArg (fun z : HC => (kS cI a z ++ (kS cI a1 x1))) eX9.symm)) hP
        have hD := wD (sa_SS_0_1.trans (congrArg (fun z : HC => (kS cI a z ++ (kS cI a1 x1))) eX9.symm)) hD
        refine lv_aload_n hx hb dX4_become_19 rfl (lv_at hl 0 rfl) ?_
        refine va_get (D := D) (ci := 4) (v := .ref (a 2)) (C := RX4) (T := TX4) (N := 7) hx hb hG inG4 hown hK hP 0 at_SS_0_0 rfl 1 (by decide) (hG _ g_176) (fun _ h9 => h9) rfl dX4_become_20 ?_
        refine lv_iload_n hx hb dX4_become_23 rfl (lv_at hl 2 rfl) ?_
        refine lv_aload_n hx hb dX4_become_24 rfl (lv_at hl 1 rfl) ?_
        refine va_get (D := D) (ci := 4) (v := .ref (a1 2)) (C := RX4) (T := TX4) (N := 7) hx hb hG inG4 hown hK hP 5 at_SS_1_0 rfl 1 (by decide) (hG _ g_176) (fun _ h9 => h9) rfl dX4_become_25 ?_
        refine lv_iload_n hx hb dX4_become_28 rfl (lv_at hl 2 rfl) ?_
        obtain ⟨hb29, hf⟩ := gd hf
        refine va_iald (cA := cI) (n := 5) (f := x1 2) hx hb hK hP 7 0 at_SS_1_2 rfl (inb_in hb29) dX4_become_29 ?_
        obtain ⟨hb30, hf⟩ := gd hf
        refine va_iast (cA := cI) (n := 5) (f := X9 2) hx hb hK hP hD hS 2 0 at_SS_0_2 rfl (inb_in hb30) dX4_become_30 (fun H locs hP hD hS => ?_)
        obtain ⟨X10, eX10⟩ : ∃ y : HC, y = (sa X9 2 v1 (x1 2 (Int32.toNatClampNeg v1))) := ⟨_, rfl⟩
        have hf := nm_x eX10 hf
        have hP := wP (sa_SS_0_2.trans (congrArg (fun z : HC => (kS cI a z ++ (kS cI a1 x1))) eX10.symm)) hP
        have hD := wD (sa_SS_0_2.trans (congrArg (fun z : HC => (kS cI a z ++ (kS cI a1 x1))) eX10.symm)) hD
        refine lv_aload_n hx hb dX4_become_31 rfl (lv_at hl 0 rfl) ?_
        refine va_get (D := D) (ci := 4) (v := .ref (a 3)) (C := RX4) (T := TX4) (N := 7) hx hb hG inG4 hown hK hP 0 at_SS_0_0 rfl 2 (by decide) (hG _ g_179) (fun _ h9 => h9) rfl dX4_become_32 ?_
        refine lv_iload_n hx hb dX4_become_35 rfl (lv_at hl 2 rfl) ?_
        refine lv_aload_n hx hb dX4_become_36 rfl (lv_at hl 1 rfl) ?_
        refine va_get (D := D) (ci := 4) (v := .ref (a1 3)) (C := RX4) (T := TX4) (N := 7) hx hb hG inG4 hown hK hP 5 at_SS_1_0 rfl 2 (by decide) (hG _ g_179) (fun _ h9 => h9) rfl dX4_become_37 ?_
        refine lv_iload_n hx hb dX4_become_40 rfl (lv_at hl 2 rfl) ?_
        obtain ⟨hb41, hf⟩ := gd hf
        refine va_iald (cA := cI) (n := 5) (f := x1 3) hx hb hK hP 8 0 at_SS_1_3 rfl (inb_in hb41) dX4_become_41 ?_
        obtain ⟨hb42, hf⟩ := gd hf
        refine va_iast (cA := cI) (n := 5) (f := X10 3) hx hb hK hP hD hS 3 0 at_SS_0_3 rfl (inb_in hb42) dX4_become_42 (fun H locs hP hD hS => ?_)
        obtain ⟨X11, eX11⟩ : ∃ y : HC, y = (sa X10 3 v1 (x1 3 (Int32.toNatClampNeg v1))) := ⟨_, rfl⟩
        have hf := nm_x eX11 hf
        have hP := wP (sa_SS_0_3.trans (congrArg (fun z : HC => (kS cI a z ++ (kS cI a1 x1))) eX11.symm)) hP
        have hD := wD (sa_SS_0_3.trans (congrArg (fun z : HC => (kS cI a z ++ (kS cI a1 x1))) eX11.symm)) hD
        obtain ⟨v12, ev12⟩ : ∃ y : Int32, y = (v1 + (1 : Int32)) := ⟨_, rfl⟩
        have hf := nm_x ev12 hf
        refine lv_iinc (v := v12) (lv' := [(2, .int v12), (0, .ref (a 0)), (1, .ref (a1 0))]) hx hb dX4_become_43 hl (k := 2) rfl (by rw [ev12]; rfl) (by decide) rfl (fun ls hl => ?_)
        refine lv_goto (tgt := 2) hx hb dX4_become_46 (by decide) ?_
        exact ih2 v12 X11 _ _ _ hP hD hS (lv_sub hl [1, 2, 0] rfl) hf
  exact L2 FU (0 : Int32) x _ _ _ hP hD hS (lv_sub hl [1, 2, 0] rfl) hf
def f_X4_draw (x : HC) (p1 : Int32) : Option (Int32 × HC) := nm (sf x 5 (Int64.toInt32 ((((Int32.toInt64 (x 0 5)) * (1103515245 : Int64)) + (12345 : Int64)) &&& (2147483647 : Int64)))) (fun (X1 : HC) => (if (1 : Int32) ≤ p1 then (if ¬ p1 = 0 then some ((((X1 0 5) / (65536 : Int32)) - ((X1 0 5) / (65536 : Int32)) / p1 * p1), X1) else none) else some ((0 : Int32), X1)))
abbrev RM_X4_draw : Room := { frames := 0, cells := 0, slots := 0, locals := 0 }
set_option maxHeartbeats 4000000 in
set_option maxRecDepth 100000 in
theorem c_X4_draw (l : Launch) (D : va_G) (cI cZ : ClassId) (a : Nat → Nat) (x : HC) (p1 : Int32) (sz : Nat) {r : Int32 × HC} (hf : f_X4_draw x p1 = some r) : Met l yX4_draw (wM yX4_draw cX4_draw 2 (some .int)) RM_X4_draw (va_Pc [.ref (a 0), .int p1] (pre D cI cZ (kS cI a x) sz)) (QI D (va_A (kS cI a x) sz) (fun (u : HC) => (kS cI a u)) r) 0 0 (va_A (kS cI a x) sz) := by
  unfold f_X4_draw at hf
  refine Met.ofW (cc := cX4_draw) (maxL := 2) (ret := (some .int)) (by decide) rfl ?_
  intro p e s m args below meth c s₁ B hml hv
  obtain ⟨rfl, hsz, hP, hK, hD0, hnw⟩ := hv
  have hx := B.exec
  have hb := B.bytes
  have hr := B.returns
  have hts := atoms_spec (ws := wM yX4_draw cX4_draw 2 (some .int)) B.pre
  have hG : ∀ w ∈ GW, w.before (([.ref (a 0), .int p1] : List Value).toArray) s = true := fun w h => hts w (List.mem_cons_of_mem _ h)
  have hown : s.vm.findClass RX4 = some m.cls := findClass_of_methodNamed B.named
  have hlocks := B.notSynchronized
  subst hsz
  have hD := hD0.self (sz := s.heap.size)
  generalize hAe : va_A (kS cI a x) s.heap.size = A at hD ⊢
  have hA : ∀ q : Nat, s.heap.size ≤ q → A q := fun q h => by rw [← hAe]; exact Or.inr h
  have hS : va_S A s.heap s.heap [] := va_S.rf
  have hl := lv_entry ([.ref (a 0), .int p1]) (n := 2) (Nat.le_of_ble_eq_true rfl)
  rw [lg_entry_eq]
  generalize (lg_sl ([.ref (a 0), .int p1]) ++ List.replicate (2 - (lg_sl ([.ref (a 0), .int p1])).length) Slot.unset).toArray = ls at hl ⊢
  have hl : lv_has ls 2 [(0, .ref (a 0)), (1, .int p1)] := hl
  show W p l e RM_X4_draw s m (([.ref (a 0), .int p1] : List Value).toArray) below meth c s.heap [] 0 0 (MQ below (QI D A (fun (u : HC) => (kS cI a u)) r) (([.ref (a 0), .int p1] : List Value).toArray) s 0 0 A) (F0 m 0 ls [])
  refine lv_aload_n hx hb dX4_draw_0 rfl (lv_at hl 0 rfl) ?_
  refine lv_aload_n hx hb dX4_draw_1 rfl (lv_at hl 0 rfl) ?_
  refine va_get (D := D) (ci := 4) (v := .int (x 0 5)) (C := RX4) (T := TX4) (N := 7) hx hb hG inG4 hown hK hP 0 at_S_0_0 rfl 5 (by decide) (hG _ g_189) (fun _ h9 => h9) rfl dX4_draw_2 ?_
  refine lv_i2l hx hb dX4_draw_5 rfl ?_
  refine lv_ldc2 hx hb hown (hG _ g_428) dX4_draw_6 ?_
  refine lv_lmul hx hb dX4_draw_9 ?_
  refine lv_ldc2 hx hb hown (hG _ g_429) dX4_draw_10 ?_
  refine lv_ladd hx hb dX4_draw_13 ?_
  refine lv_ldc2 hx hb hown (hG _ g_430) dX4_draw_14 ?_
  refine lv_land hx hb dX4_draw_17 ?_
  refine lv_l2i hx hb dX4_draw_18 rfl ?_
  refine va_put (D := D) (ci := 4) (v := .int (Int64.toInt32 ((((Int32.toInt64 (x 0 5)) * (1103515245 : Int64)) + (12345 : Int64)) &&& (2147483647 : Int64)))) (ty := .int) (C := RX4) (T := TX4) (N := 7) hx hb hG inG4 tyX4 tyX4_ok nmX4 hown hK hP hD hS 0 at_S_0_0 rfl 5 (by decide) (hG _ g_189) (fun _ h9 => h9) rfl (by decide +kernel) rfl rfl (Nat.le_of_ble_eq_true rfl) dX4_draw_19 (fun H locs hP hD hS => ?_)
  obtain ⟨X1, eX1⟩ : ∃ y : HC, y = (sf x 5 (Int64.toInt32 ((((Int32.toInt64 (x 0 5)) * (1103515245 : Int64)) + (12345 : Int64)) &&& (2147483647 : Int64)))) := ⟨_, rfl⟩
  have hf := nm_x eX1 hf
  have hP := wP (sf_S_0_5.trans (congrArg (fun z : HC => (kS cI a z)) eX1.symm)) hP
  have hD := wD (sf_S_0_5.trans (congrArg (fun z : HC => (kS cI a z)) eX1.symm)) hD
  refine lv_iload_n hx hb dX4_draw_22 rfl (lv_at hl 1 rfl) ?_
  refine lv_iconst (v := (1 : Int32)) hx hb dX4_draw_23 (by decide) ?_
  refine lv_icmp_ge (tgt := 31) hx hb dX4_draw_24 (by decide) (fun cc24 => ?_) (fun cc24 => ?_)
  · have hf := if_t cc24 hf
    refine lv_aload_n hx hb dX4_draw_31 rfl (lv_at hl 0 rfl) ?_
    refine va_get (D := D) (ci := 4) (v := .int (X1 0 5)) (C := RX4) (T := TX4) (N := 7) hx hb hG inG4 hown hK hP 0 at_S_0_0 rfl 5 (by decide) (hG _ g_189) (fun _ h9 => h9) rfl dX4_draw_32 ?_
    refine lv_ldc hx hb hown (hG _ g_431) dX4_draw_35 ?_
    refine lv_idiv hx hb dX4_draw_37 (by decide) ?_
    refine lv_iload_n hx hb dX4_draw_38 rfl (lv_at hl 1 rfl) ?_
    obtain ⟨hz39, hf⟩ := gd hf
    refine lv_irem hx hb dX4_draw_39 hz39 ?_
    exact W.iret (v := (((X1 0 5) / (65536 : Int32)) - ((X1 0 5) / (65536 : Int32)) / p1 * p1)) hx hb hr (fun t ht hW => ⟨⟨(((X1 0 5) / (65536 : Int32)) - ((X1 0 5) / (65536 : Int32)) / p1 * p1), X1, rfl, ⟨pr_1 hf, pr_2 hf⟩, by rw [ht]; exact hP, hD⟩, hS.F ht⟩) hS.2.2 dX4_draw_40
  · have hf := if_f cc24 hf
    refine lv_iconst (v := (0 : Int32)) hx hb dX4_draw_27 (by decide) ?_
    refine lv_goto (tgt := 40) hx hb dX4_draw_28 (by decide) ?_
    exact W.iret (v := (0 : Int32)) hx hb hr (fun t ht hW => ⟨⟨(0 : Int32), X1, rfl, ⟨pr_1 hf, pr_2 hf⟩, by rw [ht]; exact hP, hD⟩, hS.F ht⟩) hS.2.2 dX4_draw_40
