/-! division of ints and longs on small numbers -/
theorem bm_id {x : Int} {m : Nat} (h0 : 0 ≤ x) (h1 : 2 * x < m) : x.bmod m = x := by
  unfold Int.bmod
  rw [Int.emod_eq_of_lt h0 (by omega)]
  simp only []
  rw [if_pos (by omega)]
theorem idv_n (a b : Nat) (ha : a < 2147483648) (hb : b < 2147483648) : idv (a : Int) (b : Int) = ((a / b : Nat) : Int) := by
  have h1 : (Int32.ofInt (a : Int)).toInt = (a : Int) := wr_id (by omega) (by omega)
  have h2 : (Int32.ofInt (b : Int)).toInt = (b : Int) := wr_id (by omega) (by omega)
  have h3 := Nat.div_le_self a b
  unfold idv
  rw [Int32.toInt_div, h1, h2, ← Int.ofNat_tdiv]
  generalize a / b = c at h3 ⊢
  exact bm_id (by omega) (by omega)
theorem ldv_n (a b : Nat) (ha : a < 9223372036854775808) (hb : b < 9223372036854775808) : ldv (a : Int) (b : Int) = ((a / b : Nat) : Int) := by
  have h1 : (Int64.ofInt (a : Int)).toInt = (a : Int) := wl_id (by omega) (by omega)
  have h2 : (Int64.ofInt (b : Int)).toInt = (b : Int) := wl_id (by omega) (by omega)
  have h3 := Nat.div_le_self a b
  unfold ldv
  rw [Int64.toInt_div, h1, h2, ← Int.ofNat_tdiv]
  generalize a / b = c at h3 ⊢
  exact bm_id (by omega) (by omega)
theorem irm_n (a b : Nat) (ha : a < 2147483648) (hb : b < 2147483648) : irm (a : Int) (b : Int) = ((a % b : Nat) : Int) := by
  have e : Int32.ofInt (a : Int) / Int32.ofInt (b : Int) = Int32.ofInt ((a / b : Nat) : Int) := by
    have k := idv_n a b ha hb
    unfold idv at k
    rw [← Int32.ofInt_toInt (Int32.ofInt (a : Int) / Int32.ofInt (b : Int)), k]
  have h3 := Nat.div_add_mod a b
  have h4 := Nat.mod_le a b
  have h5 : (a : Int) - ((a / b : Nat) : Int) * (b : Int) = ((a % b : Nat) : Int) := by
    have : ((b * (a / b) + a % b : Nat) : Int) = (a : Int) := by rw [h3]
    rw [← this, Int.natCast_add, Int.natCast_mul, Int.mul_comm]
    omega
  unfold irm
  rw [e, ← Int32.ofInt_mul, ← Int32.ofInt_sub, h5]
  exact wr_id (by omega) (by omega)
theorem lrm_n (a b : Nat) (ha : a < 9223372036854775808) (hb : b < 9223372036854775808) : lrm (a : Int) (b : Int) = ((a % b : Nat) : Int) := by
  have e : Int64.ofInt (a : Int) / Int64.ofInt (b : Int) = Int64.ofInt ((a / b : Nat) : Int) := by
    have k := ldv_n a b ha hb
    unfold ldv at k
    rw [← Int64.ofInt_toInt (Int64.ofInt (a : Int) / Int64.ofInt (b : Int)), k]
  have h3 := Nat.div_add_mod a b
  have h4 := Nat.mod_le a b
  have h5 : (a : Int) - ((a / b : Nat) : Int) * (b : Int) = ((a % b : Nat) : Int) := by
    have : ((b * (a / b) + a % b : Nat) : Int) = (a : Int) := by rw [h3]
    rw [← this, Int.natCast_add, Int.natCast_mul, Int.mul_comm]
    omega
  unfold lrm
  rw [e, ← Int64.ofInt_mul, ← Int64.ofInt_sub, h5]
  exact wl_id (by omega) (by omega)
/-- what is drawn -/
def drw (x t : Nat) : Nat := (7919 * x + 6151 * t + 1) * (7919 * x + 6151 * t + 1) % 65521 / 4
theorem drw_lt (x t : Nat) : drw x t < 16381 := by
  unfold drw
  omega
