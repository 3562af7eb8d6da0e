/-! bribes in the reference -/
theorem pl_all {n : Nat} {kk mm aa ss : Nat → Nat} {g b : Nat} (ha : aa b < 2 ^ n) : plS n kk mm aa ss g (2 ^ n - 1) b = aa b := by
  rw [plS_eq]
  unfold nowS
  rw [← mk_self ha]
  refine mk_ext (fun i hi => ?_)
  have h1 : (2 ^ n - 1).testBit i = true := by rw [Nat.testBit_two_pow_sub_one]; simp [hi]
  unfold wantsS
  rw [h1, mk_self ha]
  simp
theorem wh_all {n B : Nat} {kk mm aa ss : Nat → Nat} {g : Nat} (ha : ∀ b, b < B → aa b < 2 ^ n) : ∀ b, b ≤ B → whS n kk mm aa ss g (2 ^ n - 1) b = b
  | 0, _ => rfl
  | b + 1, h => by
    unfold whS
    rw [wh_all ha b (by omega), pl_all (ha b (by omega)), if_pos rfl]
theorem wB_all {d : Dt} (hO : OkD d) : wB d (2 ^ dn d - 1) = true := by
  unfold wB
  rw [whX_0, wh_all hO.2.2.1 (dB d) (Nat.le_refl _), beq_self_eq_true]
