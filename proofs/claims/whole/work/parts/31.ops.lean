/-! ===== pure: draws ===== -/
theorem lN_big {n : Nat} (h : n < 9223372036854775808) : (lN n).toInt = (n : Int) := lg_ofNat_toInt (by omega)
theorem lN_div {a b : Nat} (ha : a < 9223372036854775808) (hb : 0 < b) (hb2 : b < 9223372036854775808) : lN a / lN b = lN (a / b) := by
  apply Int64.toInt_inj.mp
  have hq : a / b ≤ a := Nat.div_le_self a b
  rw [lg_ldiv_nonneg (by rw [lN_big ha]; omega) (by rw [lN_big hb2]; omega), lN_big ha, lN_big hb2, lN_big (by omega)]
  rfl
theorem nI_div {a b : Nat} (ha : a < 2147483648) (hb : 0 < b) (hb2 : b < 2147483648) : nI a / nI b = nI (a / b) := by
  apply Int32.toInt_inj.mp
  have hq : a / b ≤ a := Nat.div_le_self a b
  rw [lg_idiv_nonneg (by rw [nI_toInt (by omega)]; omega) (by rw [nI_toInt (by omega)]; omega), nI_toInt (by omega), nI_toInt (by omega), nI_toInt (by omega)]
  rfl
theorem mod_of (a b : Nat) : a - a / b * b = a % b := by
  have := Nat.div_add_mod a b
  rw [Nat.mul_comm] at this
  omega
theorem lN_mod {a b : Nat} (ha : a < 9223372036854775808) (hb : 0 < b) (hb2 : b < 9223372036854775808) : lN a - lN a / lN b * lN b = lN (a % b) := by
  rw [lN_div ha hb hb2, lN_mul, lN_sub (Nat.div_mul_le_self a b), mod_of]
theorem nI_mod {a b : Nat} (ha : a < 2147483648) (hb : 0 < b) (hb2 : b < 2147483648) : nI a - nI a / nI b * nI b = nI (a % b) := by
  rw [nI_div ha hb hb2, nI_mul, nI_sub (Nat.div_mul_le_self a b) ha, mod_of]
theorem lN_mask {a : Nat} (ha : a < 9223372036854775808) : lN a &&& (2147483647 : Int64) = lN (a % 2147483648) := by
  apply Int64.toBitVec_inj.mp
  rw [Int64.toBitVec_and]
  show BitVec.ofNat 64 a &&& BitVec.ofNat 64 2147483647 = BitVec.ofNat 64 (a % 2147483648)
  apply BitVec.eq_of_toNat_eq
  rw [BitVec.toNat_and, BitVec.toNat_ofNat, BitVec.toNat_ofNat, BitVec.toNat_ofNat, Nat.mod_eq_of_lt (show a < 2 ^ 64 by omega), Nat.mod_eq_of_lt (show 2147483647 < 2 ^ 64 by omega)]
  rw [show (2147483647 : Nat) = 2 ^ 31 - 1 by decide, Nat.and_two_pow_sub_one_eq_mod, show (2147483648 : Nat) = 2 ^ 31 by decide]
  rw [Nat.mod_eq_of_lt (show a % 2 ^ 31 < 2 ^ 64 by omega)]
def nxt (s : Nat) : Nat := (s * 1103515245 + 12345) % 2147483648
theorem nxt_lt (s : Nat) : nxt s < 2147483648 := Nat.mod_lt _ (by decide)
theorem draw_c {x : HC} {s n : Nat} (hs : s < 2147483648) (h5 : x 0 5 = nI s) (hn : 0 < n) (hn2 : n < 100) : f_X4_draw x (nI n) = some (nI (nxt s / 65536 % n), sf x 5 (nI (nxt s))) := by
  unfold f_X4_draw
  have hl := nxt_lt s
  rw [h5, nI_l (by omega), show (1103515245 : Int64) = lN 1103515245 from rfl, show (12345 : Int64) = lN 12345 from rfl, lN_mul, lN_add, lN_mask (by omega), lN_i]
  simp only [nm]
  rw [if_pos (show (1 : Int32) ≤ nI n from nI_le (a := 1) hn (by omega)), if_pos (nI_ne0 hn (by omega)), sf_at, if_pos rfl]
  show some (nI (nxt s) / 65536 - nI (nxt s) / 65536 / nI n * nI n, sf x 5 (nI (nxt s))) = _
  have hq : nxt s / 65536 ≤ nxt s := Nat.div_le_self _ _
  rw [show (65536 : Int32) = nI 65536 from rfl, nI_div hl (by omega) (by omega), nI_mod (by omega) hn (by omega)]
theorem draw_m {x : HC} {s n : Nat} (hs : s < 2147483648) (h5 : x 1 46 = nI s) (hn : 0 < n) (hn2 : n < 100) : f_X7_draw x (nI n) = some (nI (nxt s / 65536 % n), sa x 1 (nI 46) (nI (nxt s))) := by
  unfold f_X7_draw
  have hl := nxt_lt s
  have hq : nxt s / 65536 ≤ nxt s := Nat.div_le_self _ _
  have e46 : (46 : Int32).toNatClampNeg = 46 := by decide
  rw [if_pos (show inb (46 : Int32) 141 by decide)]
  simp only [e46, h5]
  rw [nI_l (n := s) (by omega), show (1103515245 : Int64) = lN 1103515245 from rfl, show (12345 : Int64) = lN 12345 from rfl, lN_mul, lN_add, show (2147483648 : Int64) = lN 2147483648 from rfl, lN_mod (by omega) (by omega) (by omega)]
  simp only [nm]
  rw [if_pos (show inb (46 : Int32) 141 by decide), lN_i, nI_l (n := n) (by omega), if_pos (fun e => by
    have := congrArg Int64.toInt e
    rw [lN_big (by omega)] at this
    have h0 : (0 : Int64).toInt = 0 := by decide
    omega)]
  show some ((lN (nxt s) / 65536 - lN (nxt s) / 65536 / lN n * lN n).toInt32, sa x 1 46 (nI (nxt s))) = _
  rw [show (65536 : Int64) = lN 65536 from rfl, lN_div (by omega) (by omega) (by omega), lN_mod (by omega) hn (by omega), lN_i]
  rfl
