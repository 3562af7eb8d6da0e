/-! THE REFERENCE'S EVENING: goes() -/
def ToldM (σ : Sg) (n B : Nat) (mm aa : Nat → Nat) : Prop :=
  σ 42 0 = n ∧ n ≤ 7 ∧ σ 42 1 = B ∧ B ≤ 8 ∧ (∀ i, i < n → σ 42 (11 + i) = mm i ∧ mm i < n) ∧ (∀ b, b < B → σ 42 (25 + b) = aa b ∧ aa b < 2 ^ n)
theorem ToldM.kept {σ σ' : Sg} {n B : Nat} {mm aa : Nat → Nat} (h : ToldM σ n B mm aa) (h0 : σ' 42 = σ 42) : ToldM σ' n B mm aa := by
  unfold ToldM
  rw [h0]
  exact h
/-- what goes() is told beside: seats, kinds, bribes, gaps, who is mute -/
def GoIn (σ : Sg) (n : Nat) (kk ss : Nat → Nat) (g bb mu : Nat) : Prop :=
  (∀ i, i < n → σ 48 i = ss i) ∧ (∀ i, i < n → σ 50 i = kk i ∧ kk i < 4) ∧ σ 40 16 = bb ∧ bb < 2 ^ n ∧ σ 40 17 = g ∧ g < 2147483648 ∧ σ 40 18 = mu ∧ mu < 2147483648
theorem GoIn.kept {σ σ' : Sg} {n : Nat} {kk ss : Nat → Nat} {g bb mu : Nat} (h : GoIn σ n kk ss g bb mu) (h8 : σ' 48 = σ 48) (h5 : σ' 50 = σ 50) (h1 : σ' 40 16 = σ 40 16) (h2 : σ' 40 17 = σ 40 17) (h3 : σ' 40 18 = σ 40 18) : GoIn σ' n kk ss g bb mu := by
  unfold GoIn
  rw [h8, h5, h1, h2, h3]
  exact h
-- the first loop: nobody beside
theorem go1 {n B : Nat} {mm aa : Nat → Nat} : ∀ (d k : Nat) (σ : Sg), k + d = n → ToldM σ n B mm aa →
    ∃ σ', Run 95 2 [vR 40, vI k, vJ, vJ, vJ, vJ] [] σ = Run 95 27 [vR 40, vI 0, vJ, vJ, vJ, vJ] [] σ' ∧ (∀ q, q ≠ 49 → σ' q = σ q) ∧ (∀ i, k ≤ i → i < n → σ' 49 i = 0) ∧ (∀ i, i < k → σ' 49 i = σ 49 i)
  | 0, k, σ, h, hT => by
    have := hT.2.1
    refine ⟨σ, ?_, fun _ _ => rfl, fun i h1 h2 => by omega, fun _ _ => rfl⟩
    rw [q95_2, wr_0, if_pos (by omega)]
    simp only [Int.toNat_zero, hT.1]
    rw [wr_id (by omega) (by omega), wr_id (by omega) (by omega), if_neg (by omega)]
  | d + 1, k, σ, h, hT => by
    have h7 := hT.2.1
    obtain ⟨σ', e1, f1, g1, g2⟩ := go1 d (k + 1) (up σ 49 k 0) (by omega) (hT.kept (up_ne (by decide)))
    refine ⟨σ', ?_, fun q hq => (f1 q hq).trans (up_ne hq), fun i h1 h2 => ?_, fun i hi => ?_⟩
    · rw [q95_2, wr_0, if_pos (by omega)]
      simp only [Int.toNat_zero, hT.1]
      rw [wr_id (x := (k : Int)) (by omega) (by omega), wr_id (by omega) (by omega), if_pos (by omega), if_pos (by omega), toN]
      exact e1
    · rcases Nat.eq_or_lt_of_le h1 with q | q
      · subst q; rw [g2 k (by omega), up_e]
      · exact g1 i q h2
    · rw [g2 i (by omega), up_j, if_neg (by omega)]
-- the second loop: who sits beside whom
def nbK (k : Nat) (ss : Nat → Nat) (g i j : Nat) : Bool := (List.range k).any fun k => !g.testBit k && ((ss k == i && ss (k + 1) == j) || (ss k == j && ss (k + 1) == i))
def bsK (n k : Nat) (ss : Nat → Nat) (g i : Nat) : Nat := mk n (nbK k ss g i)
theorem bsK_lt (n k : Nat) (ss : Nat → Nat) (g i : Nat) : bsK n k ss g i < 2 ^ n := mk_lt _ _
theorem nbK_succ (k : Nat) (ss : Nat → Nat) (g i j : Nat) : nbK (k + 1) ss g i j = (nbK k ss g i j || (!g.testBit k && ((ss k == i && ss (k + 1) == j) || (ss k == j && ss (k + 1) == i)))) := by
  unfold nbK
  rw [List.range_succ, List.any_append]
  simp
theorem bsK_gap {n k g i : Nat} {ss : Nat → Nat} (h : g.testBit k = true) : bsK n (k + 1) ss g i = bsK n k ss g i := by
  unfold bsK
  refine mk_ext (fun j _ => ?_)
  rw [nbK_succ, h]
  simp
theorem bsK_add {n k g i : Nat} {ss : Nat → Nat} (h : g.testBit k = false) (h1 : ss k < n) (h2 : ss (k + 1) < n) (hne : ss k ≠ ss (k + 1)) : bsK n (k + 1) ss g i = if i = ss (k + 1) then bsK n k ss g i ||| 2 ^ ss k else if i = ss k then bsK n k ss g i ||| 2 ^ ss (k + 1) else bsK n k ss g i := by
  have key : ∀ j, j < n → (bsK n (k + 1) ss g i).testBit j = (nbK k ss g i j || ((ss k == i && ss (k + 1) == j) || (ss k == j && ss (k + 1) == i))) := fun j hj => by
    unfold bsK
    rw [mk_bit, nbK_succ, h]
    simp [hj]
  have key0 : ∀ j, j < n → (bsK n k ss g i).testBit j = nbK k ss g i j := fun j hj => by
    unfold bsK
    rw [mk_bit]
    simp [hj]
  have l0 := bsK_lt n k ss g i
  by_cases c1 : i = ss (k + 1)
  · rw [if_pos c1]
    refine eq_mask (bsK_lt _ _ _ _ _) (Nat.or_lt_two_pow l0 (p2_lt h1)) (fun j hj => ?_)
    rw [key j hj, Nat.testBit_or, key0 j hj, Nat.testBit_two_pow]
    have a1 : (ss k == i) = false := by simp [c1, hne]
    have a2 : (ss (k + 1) == i) = true := by simp [c1]
    rw [a1, a2, Bool.eq_iff_iff]
    simp
  · rw [if_neg c1]
    have a2 : (ss (k + 1) == i) = false := by simpa using fun z => c1 z.symm
    by_cases c2 : i = ss k
    · rw [if_pos c2]
      refine eq_mask (bsK_lt _ _ _ _ _) (Nat.or_lt_two_pow l0 (p2_lt h2)) (fun j hj => ?_)
      rw [key j hj, Nat.testBit_or, key0 j hj, Nat.testBit_two_pow]
      have a1 : (ss k == i) = true := by simp [c2]
      rw [a1, a2, Bool.eq_iff_iff]
      simp
    · rw [if_neg c2]
      refine eq_mask (bsK_lt _ _ _ _ _) l0 (fun j hj => ?_)
      have a1 : (ss k == i) = false := by simpa using fun z => c2 z.symm
      rw [key j hj, key0 j hj, a1, a2]
      simp
theorem go2_step {n B k g bb mu : Nat} {mm aa kk ss : Nat → Nat} {σ : Sg} (hT : ToldM σ n B mm aa) (hG : GoIn σ n kk ss g bb mu) (hpm : PermS n ss) (hk : k + 1 < n) (hb : ∀ i, i < n → σ 49 i = ((bsK n k ss g i : Nat) : Int)) :
    ∃ σ', Run 95 27 [vR 40, vI k, vJ, vJ, vJ, vJ] [] σ = Run 95 27 [vR 40, vI ((k + 1 : Nat) : Int), vJ, vJ, vJ, vJ] [] σ' ∧ (∀ q, q ≠ 49 → σ' q = σ q) ∧ (∀ i, i < n → σ' 49 i = ((bsK n (k + 1) ss g i : Nat) : Int)) := by
  have h7 := hT.2.1
  have hp7 := p2_7 h7
  obtain ⟨g1, g2, g3, g4, g5, g6, g7, g8⟩ := hG
  have s1 := hpm.1 k (by omega)
  have s2 := hpm.1 (k + 1) hk
  have hne : ss k ≠ ss (k + 1) := fun z => by have := hpm.2.1 _ _ (by omega) hk z; omega
  have U : ∀ (σ : Sg) (i : Nat) (x : Int) (j : Nat), up σ 49 i x 48 j = σ 48 j := fun _ _ _ _ => up_p _ _ _ (by decide)
  have wk : wr (k : Int) = k := wr_id (by omega) (by omega)
  have ek : ((k : Int) + 1) = ((k + 1 : Nat) : Int) := by omega
  have wk1 : wr ((k + 1 : Nat) : Int) = ((k + 1 : Nat) : Int) := wr_id (by omega) (by omega)
  have w1 : wr (ss k : Int) = ss k := wr_id (by omega) (by omega)
  have w2 : wr (ss (k + 1) : Int) = ss (k + 1) := wr_id (by omega) (by omega)
  have l1 := bsK_lt n k ss g (ss k)
  have l2 := bsK_lt n k ss g (ss (k + 1))
  have q1 := p2_lt s1
  have q2 := p2_lt s2
  rw [q95_27, wr_0, if_pos (by omega)]
  simp only [Int.toNat_zero, hT.1, U, ek, wk, wk1, toN, g1 k (by omega), g1 (k + 1) hk, w1, w2, g5]
  rw [wr_id (x := (n : Int)) (by omega) (by omega), if_pos (by omega)]
  by_cases c0 : g.testBit k = false
  · rw [if_pos ((bit_0 g k g6 (by omega)).mpr c0), if_pos (by omega), if_pos (by omega), if_pos (by omega), if_pos (by omega), if_pos (by omega), if_pos (by omega), if_pos (by omega), if_pos (by omega)]
    have v2 : ∀ x : Int, up σ 49 (ss k) x 49 (ss (k + 1)) = σ 49 (ss (k + 1)) := fun x => by rw [up_j, if_neg (fun z => hne z.symm)]
    refine ⟨_, rfl, fun q hq => by rw [up_ne hq, up_ne hq], fun i hi => ?_⟩
    rw [v2, up_j, up_j, hb _ s1, hb _ s2, bsl1_n _ (by omega), bsl1_n _ (by omega), bor_n _ _ (by omega) (by omega), bor_n _ _ (by omega) (by omega), bsK_add c0 s1 s2 hne]
    by_cases c1 : i = ss (k + 1)
    · rw [if_pos c1, if_pos c1, c1]
    · rw [if_neg c1, if_neg c1]
      by_cases c2 : i = ss k
      · rw [if_pos c2, if_pos c2, c2]
      · rw [if_neg c2, if_neg c2]
        exact hb i hi
  · rw [if_neg (fun z => c0 ((bit_0 g k g6 (by omega)).mp z))]
    refine ⟨σ, rfl, fun _ _ => rfl, fun i hi => ?_⟩
    rw [bsK_gap (by simpa using c0)]
    exact hb i hi
theorem go2 {n B g bb mu : Nat} {mm aa kk ss : Nat → Nat} (hpm : PermS n ss) (hn1 : 0 < n) : ∀ (d k : Nat) (σ : Sg), k + 1 + d = n → ToldM σ n B mm aa → GoIn σ n kk ss g bb mu → (∀ i, i < n → σ 49 i = ((bsK n k ss g i : Nat) : Int)) →
    ∃ σ', Run 95 27 [vR 40, vI k, vJ, vJ, vJ, vJ] [] σ = Run 95 115 [vR 40, vI 0, vI 0, vI 0, vJ, vJ] [] (up σ' 40 19 0) ∧ (∀ q, q ≠ 49 → σ' q = σ q) ∧ (∀ i, i < n → σ' 49 i = ((bsM n ss g i : Nat) : Int))
  | 0, k, σ, h, hT, hG, hb => by
    have h7 := hT.2.1
    refine ⟨σ, ?_, fun _ _ => rfl, fun i hi => ?_⟩
    · rw [q95_27, wr_0, if_pos (by omega)]
      simp only [Int.toNat_zero, hT.1]
      rw [wr_id (x := (k : Int) + 1) (by omega) (by omega), wr_id (x := (n : Int)) (by omega) (by omega), if_neg (by omega)]
    · rw [hb i hi]
      have : k = n - 1 := by omega
      subst this
      rfl
  | d + 1, k, σ, h, hT, hG, hb => by
    obtain ⟨σ1, e1, f1, b1⟩ := go2_step hT hG hpm (by omega : k + 1 < n) hb
    obtain ⟨σ', e2, f2, b2⟩ := go2 hpm hn1 d (k + 1) σ1 (by omega) (hT.kept (f1 _ (by decide))) (hG.kept (f1 _ (by decide)) (f1 _ (by decide)) (by rw [f1 _ (by decide)]) (by rw [f1 _ (by decide)]) (by rw [f1 _ (by decide)])) b1
    exact ⟨σ', e1.trans e2, fun q hq => (f2 q hq).trans (f1 q hq), b2⟩
