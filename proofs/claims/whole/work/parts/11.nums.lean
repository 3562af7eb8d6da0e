/-! NUMBERS: what wr, ban, bor .. are on small numbers; masks (rows s_l, nx_and, nx_xor begun from kit/laws/BITS) -/
theorem wr_id {x : Int} (h1 : -2147483648 ≤ x) (h2 : x < 2147483648) : wr x = x := Int32.toInt_ofInt_of_le (by omega) (by omega)
theorem wl_id {x : Int} (h1 : -9223372036854775808 ≤ x) (h2 : x < 9223372036854775808) : wl x = x := Int64.toInt_ofInt_of_le (by omega) (by omega)
theorem oI (n : Nat) : Int32.ofInt (n : Int) = nI n := Int32.ofInt_eq_ofNat
theorem s_l : ∀ n, n < 32 → ((nI n &&& 31).toBitVec.smod 32).toNat = n := by decide +kernel
theorem nx_and (a b : Nat) : nI a &&& nI b = nI (a &&& b) := by
  apply Int32.toBitVec_inj.1
  show BitVec.ofNat 32 a &&& BitVec.ofNat 32 b = BitVec.ofNat 32 (a &&& b)
  apply BitVec.eq_of_getLsbD_eq
  intro i hi
  simp [hi]
theorem nx_or (a b : Nat) : nI a ||| nI b = nI (a ||| b) := by
  apply Int32.toBitVec_inj.1
  show BitVec.ofNat 32 a ||| BitVec.ofNat 32 b = BitVec.ofNat 32 (a ||| b)
  apply BitVec.eq_of_getLsbD_eq
  intro i hi
  simp [hi]
theorem nx_xor (a b : Nat) : nI a ^^^ nI b = nI (a ^^^ b) := by
  apply Int32.toBitVec_inj.1
  show BitVec.ofNat 32 a ^^^ BitVec.ofNat 32 b = BitVec.ofNat 32 (a ^^^ b)
  apply BitVec.eq_of_getLsbD_eq
  intro i hi
  simp [hi]
theorem ban_n (a b : Nat) (ha : a < 2147483648) : ban a b = ((a &&& b : Nat) : Int) := by
  unfold ban
  rw [oI, oI, nx_and]
  exact nI_toInt (Nat.lt_of_le_of_lt Nat.and_le_left ha)
theorem bor_n (a b : Nat) (ha : a < 2147483648) (hb : b < 2147483648) : bor a b = ((a ||| b : Nat) : Int) := by
  unfold bor
  rw [oI, oI, nx_or]
  exact nI_toInt (Nat.or_lt_two_pow (n := 31) ha hb)
theorem bxo_n (a b : Nat) (ha : a < 2147483648) (hb : b < 2147483648) : bxo a b = ((a ^^^ b : Nat) : Int) := by
  unfold bxo
  rw [oI, oI, nx_xor]
  exact nI_toInt (Nat.xor_lt_two_pow (n := 31) ha hb)
theorem bsl1_n : ∀ k : Nat, k < 31 → bsl 1 k = ((2 ^ k : Nat) : Int) := by decide +kernel
theorem bsl_n (a k : Nat) (hk : k < 32) (h : a * 2 ^ k < 2147483648) : bsl a k = ((a * 2 ^ k : Nat) : Int) := by
  unfold bsl
  rw [oI, oI, pk_shlN (nI k &&& 31) k (s_l k hk) (Nat.lt_trans h (by decide))]
  exact nI_toInt h
theorem bsr_n (a k : Nat) (ha : a < 2147483648) (hk : k < 32) : bsr a k = ((a / 2 ^ k : Nat) : Int) := by
  unfold bsr
  rw [oI, oI, pk_shrN ha (nI k &&& 31) k (s_l k hk)]
  exact nI_toInt (Nat.lt_of_le_of_lt (Nat.div_le_self _ _) ha)
theorem tb_n (a k : Nat) : a / 2 ^ k % 2 = if a.testBit k = true then 1 else 0 := by
  rw [Nat.testBit_eq_decide_div_mod_eq]
  by_cases h : a / 2 ^ k % 2 = 1
  · simp [h]
  · simp [h]; omega
theorem bit_n (a k : Nat) (ha : a < 2147483648) (hk : k < 32) : ban (bsr a k) 1 = if a.testBit k = true then 1 else 0 := by
  have e : ban (bsr a k) 1 = ((a / 2 ^ k &&& 1 : Nat) : Int) := by
    rw [bsr_n a k ha hk]
    exact ban_n _ 1 (Nat.lt_of_le_of_lt (Nat.div_le_self _ _) ha)
  rw [e, Nat.and_one_is_mod, tb_n]
  split <;> rfl
theorem wr_0 : wr 0 = 0 := by decide
theorem wr_1 : wr 1 = 1 := by decide
theorem bit_0 (a k : Nat) (ha : a < 2147483648) (hk : k < 32) : wr (ban (bsr a k) 1) = 0 ↔ a.testBit k = false := by
  rw [bit_n a k ha hk]
  cases a.testBit k <;> simp [wr_0, wr_1]
theorem bit_1 (a k : Nat) (ha : a < 2147483648) (hk : k < 32) : wr (ban (bsr a k) 1) = wr 1 ↔ a.testBit k = true := by
  rw [bit_n a k ha hk]
  cases a.testBit k <;> simp [wr_0, wr_1]
theorem ban_0 (a b : Nat) (ha : a < 2147483648) : wr (ban a b) = 0 ↔ a &&& b = 0 := by
  have h := Nat.and_le_left (n := a) (m := b)
  rw [ban_n a b ha, wr_id (by omega) (by omega)]
  omega
/-- bits of a that b has not -/
def andn (a b : Nat) : Nat := a ^^^ (a &&& b)
theorem andn_bit (a b i : Nat) : (andn a b).testBit i = (a.testBit i && !b.testBit i) := by
  unfold andn
  rw [Nat.testBit_xor, Nat.testBit_and]
  cases a.testBit i <;> cases b.testBit i <;> rfl
theorem andn_le (a b : Nat) : andn a b ≤ a := by
  have e : andn a b = a &&& andn a b := by
    apply Nat.eq_of_testBit_eq
    intro i
    rw [Nat.testBit_and, andn_bit]
    cases a.testBit i <;> cases b.testBit i <;> rfl
  rw [e]
  exact Nat.and_le_left
theorem ban_not (a b : Nat) (ha : a < 2147483648) : ban a (bxo b (-1)) = ((andn a b : Nat) : Int) := by
  have e : (Int32.ofInt a &&& Int32.ofInt (bxo b (-1))) = nI (andn a b) := by
    unfold bxo
    rw [w_rt, oI, oI]
    apply Int32.toBitVec_inj.1
    apply BitVec.eq_of_getLsbD_eq
    intro i hi
    rw [Int32.toBitVec_and, BitVec.getLsbD_and, Int32.toBitVec_xor, BitVec.getLsbD_xor]
    have h1 : (Int32.ofInt (-1)).toBitVec.getLsbD i = true := (by decide +kernel : ∀ i, i < 32 → (Int32.ofInt (-1)).toBitVec.getLsbD i = true) i hi
    have h2 : ∀ x : Nat, (nI x).toBitVec.getLsbD i = x.testBit i := fun x => by
      show (BitVec.ofNat 32 x).getLsbD i = _
      rw [BitVec.getLsbD_ofNat]
      simp [hi]
    rw [h1, h2, h2, h2, andn_bit]
    cases a.testBit i <;> cases b.testBit i <;> rfl
  unfold ban
  rw [e]
  exact nI_toInt (Nat.lt_of_le_of_lt (andn_le a b) ha)
theorem toN (n : Nat) : ((n : Int)).toNat = n := Int.toNat_natCast n
-- MASKS out of predicates
def mk : Nat → (Nat → Bool) → Nat
  | 0, _ => 0
  | n + 1, f => mk n f ||| (if f n = true then 2 ^ n else 0)
theorem mk_bit (n : Nat) (f : Nat → Bool) (i : Nat) : (mk n f).testBit i = (decide (i < n) && f i) := by
  induction n with
  | zero => simp [mk]
  | succ n ih =>
    unfold mk
    rw [Nat.testBit_or, ih]
    by_cases h : i < n
    · have : ¬ n = i := by omega
      have h2 : i < n + 1 := by omega
      by_cases hf : f n = true <;> simp [h, h2, hf, Nat.testBit_two_pow, this]
    · by_cases e : i = n
      · subst e
        cases hf : f i <;> simp [Nat.testBit_two_pow]
      · have h2 : ¬ i < n + 1 := by omega
        have h3 : ¬ n = i := by omega
        by_cases hf : f n = true <;> simp [h, h2, hf, Nat.testBit_two_pow, h3]
theorem mk_lt (n : Nat) (f : Nat → Bool) : mk n f < 2 ^ n := by
  apply Nat.lt_pow_two_of_testBit
  intro i hi
  rw [mk_bit]
  simp; omega
theorem mk_ext {n : Nat} {f g : Nat → Bool} (h : ∀ i, i < n → f i = g i) : mk n f = mk n g := by
  apply Nat.eq_of_testBit_eq
  intro i
  rw [mk_bit, mk_bit]
  by_cases hi : i < n
  · rw [h i hi]
  · simp [hi]
theorem mk_self {n a : Nat} (h : a < 2 ^ n) : mk n (fun i => a.testBit i) = a := by
  apply Nat.eq_of_testBit_eq
  intro i
  rw [mk_bit]
  by_cases hi : i < n
  · simp [hi]
  · have := Nat.testBit_lt_two_pow (Nat.lt_of_lt_of_le h (Nat.pow_le_pow_right (by decide) (Nat.le_of_not_lt hi)))
    simp [this]
theorem eq_mask {n a b : Nat} (ha : a < 2 ^ n) (hb : b < 2 ^ n) (h : ∀ i, i < n → a.testBit i = b.testBit i) : a = b := by
  rw [← mk_self ha, ← mk_self hb]
  exact mk_ext h
/-- how many bits -/
def popc : Nat → Nat → Nat
  | 0, _ => 0
  | n + 1, a => popc n a + (if a.testBit n = true then 1 else 0)
theorem popc_le (n a : Nat) : popc n a ≤ n := by
  induction n with
  | zero => exact Nat.le_refl _
  | succ n ih => unfold popc; split <;> omega
-- cells
theorem up_e (σ : Sg) (p i : Nat) (x : Int) : up σ p i x p i = x := if_pos ⟨rfl, rfl⟩
theorem up_n (σ : Sg) {p i q j : Nat} (x : Int) (h : ¬ (q = p ∧ j = i)) : up σ p i x q j = σ q j := if_neg h
theorem up_at (σ : Sg) (p i : Nat) (x : Int) (q j : Nat) : up σ p i x q j = if q = p ∧ j = i then x else σ q j := rfl
theorem up_p (σ : Sg) {p i q : Nat} (x : Int) (j : Nat) (h : q ≠ p) : up σ p i x q j = σ q j := if_neg (fun z => h z.1)
theorem up_j (σ : Sg) (p i : Nat) (x : Int) (j : Nat) : up σ p i x p j = if j = i then x else σ p j := by
  unfold up
  by_cases h : j = i <;> simp [h]
theorem kcI_s (x : Int) (s : Sg) (k : Int → Sg → Res) : kcI (some (vI x, s)) k = k x s := rfl
theorem kcV_s (v : AV) (s : Sg) (k : Sg → Res) : kcV (some (v, s)) k = k s := rfl
theorem kcR_s (p : Nat) (s : Sg) (k : Sg → Res) : kcR p (some (vR p, s)) k = k s := if_pos rfl
