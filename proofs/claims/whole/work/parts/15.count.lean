/-! HOW MANY SEATINGS: counted, by codes in octal -/
def dig (p i : Nat) : Nat := p / 8 ^ i % 8
def enc : Nat → (Nat → Nat) → Nat
  | 0, _ => 0
  | n + 1, f => enc n f + f n * 8 ^ n
theorem enc_lt : ∀ (n : Nat) (f : Nat → Nat), (∀ i, i < n → f i < 8) → enc n f < 8 ^ n
  | 0, _, _ => Nat.lt_of_lt_of_le Nat.zero_lt_one (Nat.le_refl _)
  | n + 1, f, h => by
    have h1 := enc_lt n f (fun i hi => h i (by omega))
    have h2 := h n (by omega)
    have h3 : f n * 8 ^ n ≤ 7 * 8 ^ n := Nat.mul_le_mul_right _ (by omega)
    unfold enc
    rw [Nat.pow_succ]
    omega
theorem dig_enc : ∀ (n : Nat) (f : Nat → Nat), (∀ i, i < n → f i < 8) → ∀ i, i < n → dig (enc n f) i = f i
  | 0, _, _, i, hi => by omega
  | n + 1, f, h, i, hi => by
    have h1 := enc_lt n f (fun i hi => h i (by omega))
    have h2 := h n (by omega)
    unfold dig enc
    rcases Nat.lt_or_ge i n with q | q
    · have ih := dig_enc n f (fun i hi => h i (by omega)) i q
      unfold dig at ih
      have e : f n * 8 ^ n = (f n * 8 ^ (n - i - 1) * 8) * 8 ^ i := by
        rw [Nat.mul_assoc, Nat.mul_assoc, ← Nat.pow_succ', ← Nat.pow_add]
        congr 2
        omega
      rw [e, Nat.add_mul_div_right _ _ (Nat.pow_pos (by decide)), Nat.add_mul_mod_self_right]
      exact ih
    · have : i = n := by omega
      subst this
      rw [Nat.add_mul_div_right _ _ (Nat.pow_pos (by decide)), Nat.div_eq_of_lt h1, Nat.zero_add, Nat.mod_eq_of_lt h2]
theorem ris_congr {f g : Nat → Nat} : ∀ k, (∀ i, i ≤ k → f i = g i) → ris f k = ris g k
  | 0, _ => rfl
  | k + 1, h => by
    unfold ris
    rw [h (k + 1) (Nat.le_refl _), h k (by omega), ris_congr k (fun i hi => h i (by omega))]
theorem abv_congr {f g : Nat → Nat} {a : Nat} (ha : f a = g a) : ∀ k, (∀ i, i ≤ k → f i = g i) → abv f a k = abv g a k
  | 0, _ => rfl
  | k + 1, h => by
    unfold abv
    rw [h (k + 1) (Nat.le_refl _), ha, abv_congr ha k (fun i hi => h i (by omega))]
theorem nxF_congr {n : Nat} {f g : Nat → Nat} (hn : 0 < n) (h : ∀ i, i < n → f i = g i) : ∀ i, i < n → nxF n f i = nxF n g i := fun i hi => by
  have h1 := ris_congr (n - 1) (fun i (hi : i ≤ n - 1) => h i (by omega))
  have h2 := ris_le g (n - 1)
  unfold nxF
  rw [h1]
  by_cases c : ris g (n - 1) = 0
  · rw [if_pos c, if_pos c]; exact h i hi
  · rw [if_neg c, if_neg c]
    have h3 := abv_congr (f := f) (g := g) (a := ris g (n - 1) - 1) (h _ (by omega)) (n - 1) (fun i hi => h i (by omega))
    rw [h3]
    have h4 := abv_le g (ris g (n - 1) - 1) (n - 1)
    unfold revA swF
    have hr : revI n (ris g (n - 1) - 1) i < n := by unfold revI; split <;> omega
    rw [h _ hr, h (ris g (n - 1) - 1) (by omega), h (abv g (ris g (n - 1) - 1) (n - 1)) (by omega)]
theorem hasN_congr {n : Nat} {f g : Nat → Nat} (hn : 0 < n) (h : ∀ i, i < n → f i = g i) : hasN n f = hasN n g := by
  unfold hasN
  rw [ris_congr (n - 1) (fun i (hi : i ≤ n - 1) => h i (by omega))]
def nxN (n p : Nat) : Nat := enc n (nxF n (dig p))
def chk (n : Nat) : Nat → Nat → Bool
  | 0, p => !hasN n (dig p)
  | k + 1, p => hasN n (dig p) && chk n k (nxN n p)
/-- a stretch: k steps from p lead to q, and there is a next seating ahead of each -/
def lead (n : Nat) : Nat → Nat → Nat → Bool
  | 0, p, q => p == q
  | k + 1, p, q => hasN n (dig p) && lead n k (nxN n p) q
theorem lead_ok {n : Nat} (hn : 0 < n) : ∀ (k p q o : Nat), lead n k p q = true → (∀ i, i < n → dig p i = pmF n o i) → (∀ j, j < k → hasN n (pmF n (o + j)) = true) ∧ ∀ i, i < n → dig q i = pmF n (o + k) i
  | 0, p, q, o, h, hp => by
    unfold lead at h
    have : p = q := by simpa using h
    subst this
    exact ⟨fun j hj => by omega, hp⟩
  | k + 1, p, q, o, h, hp => by
    unfold lead at h
    rw [Bool.and_eq_true] at h
    have h1 : hasN n (pmF n o) = true := by rw [← hasN_congr hn hp]; exact h.1
    have h2 : ∀ i, i < n → dig (nxN n p) i = pmF n (o + 1) i := fun i hi => by
      show dig (enc n (nxF n (dig p))) i = nxF n (pmF n o) i
      have hc := nxF_congr hn hp
      have h8 : ∀ i, i < n → nxF n (dig p) i < 8 := fun i hi => by
        rw [hc i hi]
        have := (pmF_perm n (o + 1)).1 i hi
        have h9 : nxF n (pmF n o) i < n := this
        have := hp i hi
        have hd : ∀ v, v < n → ∃ s, s < n ∧ pmF n o s = v := (pmF_perm n o).2.2
        rcases Nat.lt_or_ge n 9 with g | g
        · omega
        · exfalso
          obtain ⟨s, hs, e⟩ := hd 8 (by omega)
          have := hp s hs
          have h10 : dig p s < 8 := Nat.mod_lt _ (by decide)
          omega
      rw [dig_enc n _ h8 i hi, hc i hi]
    obtain ⟨r1, r2⟩ := lead_ok hn k (nxN n p) q (o + 1) h.2 h2
    refine ⟨fun j hj => ?_, fun i hi => ?_⟩
    · cases j with
      | zero => exact h1
      | succ j => rw [show o + (j + 1) = o + 1 + j by omega]; exact r1 j (by omega)
    · rw [show o + (k + 1) = o + 1 + k by omega]
      exact r2 i hi
def fac : Nat → Nat
  | 0 => 1
  | n + 1 => fac n * (n + 1)
theorem fac_pos : ∀ n, 0 < fac n
  | 0 => by decide
  | n + 1 => Nat.mul_pos (fac_pos n) (Nat.succ_pos n)
theorem leads : ∀ n, n < 8 → 0 < n → lead n (fac n - 1) (enc n (fun i => i)) (enc n (fun i => n - 1 - i)) = true := by
  intro n h1 h0
  rcases (show n = 1 ∨ n = 2 ∨ n = 3 ∨ n = 4 ∨ n = 5 ∨ n = 6 ∨ n = 7 by omega) with rfl | rfl | rfl | rfl | rfl | rfl | rfl <;> decide +kernel
theorem lasts : ∀ n, n < 8 → 0 < n → hasN n (dig (enc n (fun i => n - 1 - i))) = false := by decide +kernel
/-- there are fac n seatings, and a next one behind each but the last -/
theorem seats_n {n : Nat} (hn : n ≤ 7) (h0 : 0 < n) : (∀ j, j + 1 < fac n → hasN n (pmF n j) = true) ∧ hasN n (pmF n (fac n - 1)) = false := by
  obtain ⟨r1, r2⟩ := lead_ok h0 (fac n - 1) _ _ 0 (leads n (by omega) h0) (fun i hi => dig_enc n _ (fun i hi => by omega) i hi)
  refine ⟨fun j hj => ?_, ?_⟩
  · have := r1 j (by omega)
    rwa [Nat.zero_add] at this
  · have h3 := hasN_congr h0 r2
    rw [lasts n (by omega) h0, Nat.zero_add] at h3
    exact h3.symm
