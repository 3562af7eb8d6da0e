/-! THE REFERENCE'S EVENING: goes() -/
def ToldM (σ : Sg) (n B : Nat) (mm aa : Nat → Nat) : Prop :=
  σ 42 0 = n ∧ n ≤ 7 ∧ σ 42 1 = B ∧ B ≤ 8 ∧ (∀ i, i < n → σ 42 (11 + i) = mm i ∧ mm i < n) ∧ (∀ b, b < B → σ 42 (25 + b) = aa b ∧ aa b < 2 ^ n)
theorem ToldM.kept {σ σ' : Sg} {n B : Nat} {mm aa : Nat → Nat} (h : ToldM σ n B mm aa) (h0 : σ' 42 = σ 42) : ToldM σ' n B mm aa := by
  unfold ToldM
  rw [h0]
  exact h
/-- what goes() is told beside: seats, kinds, bribes, gaps, who is mute -/
def GoIn (σ : Sg) (n : Nat) (kk ss : Nat → Nat) (g bb mu : Nat) : Prop :=
  (∀ i, i < n → σ 48 i = ss i) ∧ (∀ i, i < n → σ 50 i = kk i ∧ kk i < 4) ∧ σ 40 16 = bb ∧ bb < 2 ^ n ∧ σ 40 17 = g ∧ g < 2147483648 ∧ σ 40 18 = mu ∧ mu < 2147483648
theorem GoIn.kept {σ σ' : Sg} {n : Nat} {kk ss : Nat → Nat} {g bb mu : Nat} (h : GoIn σ n kk ss g bb mu) (h8 : σ' 48 = σ 48) (h5 : σ' 50 = σ 50) (h1 : σ' 40 16 = σ 40 16) (h2 : σ' 40 17 = σ 40 17) (h3 : σ' 40 18 = σ 40 18) : GoIn σ' n kk ss g bb mu := by
  unfold GoIn
  rw [h8, h5, h1, h2, h3]
  exact h
-- the first loop: nobody beside
theorem go1 {n B : Nat} {mm aa : Nat → Nat} : ∀ (d k : Nat) (σ : Sg), k + d = n → ToldM σ n B mm aa →
    ∃ σ', Run 95 2 [vR 40, vI k, vJ, vJ, vJ, vJ] [] σ = Run 95 27 [vR 40, vI 0, vJ, vJ, vJ, vJ] [] σ' ∧ (∀ q, q ≠ 49 → σ' q = σ q) ∧ (∀ i, k ≤ i → i < n → σ' 49 i = 0) ∧ (∀ i, i < k → σ' 49 i = σ 49 i)
  | 0, k, σ, h, hT => by
    have := hT.2.1
    refine ⟨σ, ?_, fun _ _ => rfl, fun i h1 h2 => by omega, fun _ _ => rfl⟩
    rw [q95_2, wr_0, if_pos (by omega)]
    simp only [Int.toNat_zero, hT.1]
    rw [wr_id (by omega) (by omega), wr_id (by omega) (by omega), if_neg (by omega)]
  | d + 1, k, σ, h, hT => by
    have h7 := hT.2.1
    obtain ⟨σ', e1, f1, g1, g2⟩ := go1 d (k + 1) (up σ 49 k 0) (by omega) (hT.kept (up_ne (by decide)))
    refine ⟨σ', ?_, fun q hq => (f1 q hq).trans (up_ne hq), fun i h1 h2 => ?_, fun i hi => ?_⟩
    · rw [q95_2, wr_0, if_pos (by omega)]
      simp only [Int.toNat_zero, hT.1]
      rw [wr_id (x := (k : Int)) (by omega) (by omega), wr_id (by omega) (by omega), if_pos (by omega), if_pos (by omega), toN]
      exact e1
    · rcases Nat.eq_or_lt_of_le h1 with q | q
      · subst q; rw [g2 k (by omega), up_e]
      · exact g1 i q h2
    · rw [g2 i (by omega), up_j, if_neg (by omega)]
-- the second loop: who sits beside whom
def nbK (k : Nat) (ss : Nat → Nat) (g i j : Nat) : Bool := (List.range k).any fun k => !g.testBit k && ((ss k == i && ss (k + 1) == j) || (ss k == j && ss (k + 1) == i))
def bsK (n k : Nat) (ss : Nat → Nat) (g i : Nat) : Nat := mk n (nbK k ss g i)
theorem bsK_lt (n k : Nat) (ss : Nat → Nat) (g i : Nat) : bsK n k ss g i < 2 ^ n := mk_lt _ _
theorem nbK_succ (k : Nat) (ss : Nat → Nat) (g i j : Nat) : nbK (k + 1) ss g i j = (nbK k ss g i j || (!g.testBit k && ((ss k == i && ss (k + 1) == j) || (ss k == j && ss (k + 1) == i)))) := by
  unfold nbK
  rw [List.range_succ, List.any_append]
  simp
theorem bsK_gap {n k g i : Nat} {ss : Nat → Nat} (h : g.testBit k = true) : bsK n (k + 1) ss g i = bsK n k ss g i := by
  unfold bsK
  refine mk_ext (fun j _ => ?_)
  rw [nbK_succ, h]
  simp
theorem bsK_add {n k g i : Nat} {ss : Nat → Nat} (h : g.testBit k = false) (h1 : ss k < n) (h2 : ss (k + 1) < n) (hne : ss k ≠ ss (k + 1)) : bsK n (k + 1) ss g i = if i = ss (k + 1) then bsK n k ss g i ||| 2 ^ ss k else if i = ss k then bsK n k ss g i ||| 2 ^ ss (k + 1) else bsK n k ss g i := by
  have key : ∀ j, j < n → (bsK n (k + 1) ss g i).testBit j = (nbK k ss g i j || ((ss k == i && ss (k + 1) == j) || (ss k == j && ss (k + 1) == i))) := fun j hj => by
    unfold bsK
    rw [mk_bit, nbK_succ, h]
    simp [hj]
  have key0 : ∀ j, j < n → (bsK n k ss g i).testBit j = nbK k ss g i j := fun j hj => by
    unfold bsK
    rw [mk_bit]
    simp [hj]
  have l0 := bsK_lt n k ss g i
  by_cases c1 : i = ss (k + 1)
  · rw [if_pos c1]
    refine eq_mask (bsK_lt _ _ _ _ _) (Nat.or_lt_two_pow l0 (p2_lt h1)) (fun j hj => ?_)
    rw [key j hj, Nat.testBit_or, key0 j hj, Nat.testBit_two_pow]
    have a1 : (ss k == i) = false := by simp [c1, hne]
    have a2 : (ss (k + 1) == i) = true := by simp [c1]
    rw [a1, a2, Bool.eq_iff_iff]
    simp
  · rw [if_neg c1]
    have a2 : (ss (k + 1) == i) = false := by simpa using fun z => c1 z.symm
    by_cases c2 : i = ss k
    · rw [if_pos c2]
      refine eq_mask (bsK_lt _ _ _ _ _) (Nat.or_lt_two_pow l0 (p2_lt h2)) (fun j hj => ?_)
      rw [key j hj, Nat.testBit_or, key0 j hj, Nat.testBit_two_pow]
      have a1 : (ss k == i) = true := by simp [c2]
      rw [a1, a2, Bool.eq_iff_iff]
      simp
    · rw [if_neg c2]
      refine eq_mask (bsK_lt _ _ _ _ _) l0 (fun j hj => ?_)
      have a1 : (ss k == i) = false := by simpa using fun z => c2 z.symm
      rw [key j hj, key0 j hj, a1, a2]
      simp
theorem go2_step {n B k g bb mu : Nat} {mm aa kk ss : Nat → Nat} {σ : Sg} (hT : ToldM σ n B mm aa) (hG : GoIn σ n kk ss g bb mu) (hpm : PermS n ss) (hk : k + 1 < n) (hb : ∀ i, i < n → σ 49 i = ((bsK n k ss g i : Nat) : Int)) :
    ∃ σ', Run 95 27 [vR 40, vI k, vJ, vJ, vJ, vJ] [] σ = Run 95 27 [vR 40, vI ((k + 1 : Nat) : Int), vJ, vJ, vJ, vJ] [] σ' ∧ (∀ q, q ≠ 49 → σ' q = σ q) ∧ (∀ i, i < n → σ' 49 i = ((bsK n (k + 1) ss g i : Nat) : Int)) := by
  have h7 := hT.2.1
  have hp7 := p2_7 h7
  obtain ⟨g1, g2, g3, g4, g5, g6, g7, g8⟩ := hG
  have s1 := hpm.1 k (by omega)
  have s2 := hpm.1 (k + 1) hk
  have hne : ss k ≠ ss (k + 1) := fun z => by have := hpm.2.1 _ _ (by omega) hk z; omega
  have U : ∀ (σ : Sg) (i : Nat) (x : Int) (j : Nat), up σ 49 i x 48 j = σ 48 j := fun _ _ _ _ => up_p _ _ _ (by decide)
  have wk : wr (k : Int) = k := wr_id (by omega) (by omega)
  have ek : ((k : Int) + 1) = ((k + 1 : Nat) : Int) := by omega
  have wk1 : wr ((k + 1 : Nat) : Int) = ((k + 1 : Nat) : Int) := wr_id (by omega) (by omega)
  have w1 : wr (ss k : Int) = ss k := wr_id (by omega) (by omega)
  have w2 : wr (ss (k + 1) : Int) = ss (k + 1) := wr_id (by omega) (by omega)
  have l1 := bsK_lt n k ss g (ss k)
  have l2 := bsK_lt n k ss g (ss (k + 1))
  have q1 := p2_lt s1
  have q2 := p2_lt s2
  rw [q95_27, wr_0, if_pos (by omega)]
  simp only [Int.toNat_zero, hT.1, U, ek, wk, wk1, toN, g1 k (by omega), g1 (k + 1) hk, w1, w2, g5]
  rw [wr_id (x := (n : Int)) (by omega) (by omega), if_pos (by omega)]
  by_cases c0 : g.testBit k = false
  · rw [if_pos ((bit_0 g k g6 (by omega)).mpr c0), if_pos (by omega), if_pos (by omega), if_pos (by omega), if_pos (by omega), if_pos (by omega), if_pos (by omega), if_pos (by omega), if_pos (by omega)]
    have v2 : ∀ x : Int, up σ 49 (ss k) x 49 (ss (k + 1)) = σ 49 (ss (k + 1)) := fun x => by rw [up_j, if_neg (fun z => hne z.symm)]
    refine ⟨_, rfl, fun q hq => by rw [up_ne hq, up_ne hq], fun i hi => ?_⟩
    rw [v2, up_j, up_j, hb _ s1, hb _ s2, bsl1_n _ (by omega), bsl1_n _ (by omega), bor_n _ _ (by omega) (by omega), bor_n _ _ (by omega) (by omega), bsK_add c0 s1 s2 hne]
    by_cases c1 : i = ss (k + 1)
    · rw [if_pos c1, if_pos c1, c1]
    · rw [if_neg c1, if_neg c1]
      by_cases c2 : i = ss k
      · rw [if_pos c2, if_pos c2, c2]
      · rw [if_neg c2, if_neg c2]
        exact hb i hi
  · rw [if_neg (fun z => c0 ((bit_0 g k g6 (by omega)).mp z))]
    refine ⟨σ, rfl, fun _ _ => rfl, fun i hi => ?_⟩
    rw [bsK_gap (by simpa using c0)]
    exact hb i hi
theorem go2 {n B g bb mu : Nat} {mm aa kk ss : Nat → Nat} (hpm : PermS n ss) (hn1 : 0 < n) : ∀ (d k : Nat) (σ : Sg), k + 1 + d = n → ToldM σ n B mm aa → GoIn σ n kk ss g bb mu → (∀ i, i < n → σ 49 i = ((bsK n k ss g i : Nat) : Int)) →
    ∃ σ', Run 95 27 [vR 40, vI k, vJ, vJ, vJ, vJ] [] σ = Run 95 115 [vR 40, vI 0, vI 0, vI 0, vJ, vJ] [] (up σ' 40 19 0) ∧ (∀ q, q ≠ 49 → σ' q = σ q) ∧ (∀ i, i < n → σ' 49 i = ((bsM n ss g i : Nat) : Int))
  | 0, k, σ, h, hT, hG, hb => by
    have h7 := hT.2.1
    refine ⟨σ, ?_, fun _ _ => rfl, fun i hi => ?_⟩
    · rw [q95_27, wr_0, if_pos (by omega)]
      simp only [Int.toNat_zero, hT.1]
      rw [wr_id (x := (k : Int) + 1) (by omega) (by omega), wr_id (x := (n : Int)) (by omega) (by omega), if_neg (by omega)]
    · rw [hb i hi]
      have : k = n - 1 := by omega
      subst this
      rfl
  | d + 1, k, σ, h, hT, hG, hb => by
    obtain ⟨σ1, e1, f1, b1⟩ := go2_step hT hG hpm (by omega : k + 1 < n) hb
    obtain ⟨σ', e2, f2, b2⟩ := go2 hpm hn1 d (k + 1) σ1 (by omega) (hT.kept (f1 _ (by decide))) (hG.kept (f1 _ (by decide)) (f1 _ (by decide)) (by rw [f1 _ (by decide)]) (by rw [f1 _ (by decide)]) (by rw [f1 _ (by decide)])) b1
    exact ⟨σ', e1.trans e2, fun q hq => (f2 q hq).trans (f1 q hq), b2⟩
-- ones(set)
theorem ones_loop (a : Nat) (ha : a < 2147483648) (σ : Sg) : ∀ (d k : Nat), k + d = 8 → Run 82 4 [vI a, vI ((popc k a : Nat) : Int), vI k] [] σ = some (vI ((popc 8 a : Nat) : Int), σ)
  | 0, k, h => by
    have : k = 8 := by omega
    subst this
    rw [q82_4, wr_id (x := ((8 : Nat) : Int)) (by omega) (by omega), wr_id (x := 8) (by omega) (by omega), if_neg (by omega)]
  | d + 1, k, h => by
    rw [q82_4, wr_id (by omega) (by omega), wr_id (by omega) (by omega), if_pos (by omega), bit_n a k ha (by omega)]
    have e : ((popc k a : Nat) : Int) + (if a.testBit k = true then 1 else 0) = ((popc (k + 1) a : Nat) : Int) := by
      show _ = (((popc k a + _ : Nat)) : Int)
      split <;> simp
    rw [e]
    exact ones_loop a ha σ d (k + 1) (by omega)
theorem ones_all (a : Nat) (ha : a < 2147483648) (σ : Sg) : Cal 82 [vI a] σ = some (vI ((popc 8 a : Nat) : Int), σ) := by
  show Run 82 0 _ _ _ = _
  exact (q82_0 _ _).trans (ones_loop a ha σ 8 0 (by omega))
-- askedIn(bar)
theorem asked_all {n B mu b : Nat} {mm aa : Nat → Nat} {σ : Sg} (hT : ToldM σ n B mm aa) (hmu : σ 40 18 = mu) (hb : b < B) : Cal 94 [vR 40, vI b] σ = some (vI ((andn (aa b) mu : Nat) : Int), σ) := by
  obtain ⟨h1, h2, h3, h4, h5, h6⟩ := hT
  have hp7 := p2_7 h2
  have := (h6 b hb).2
  show Run 94 0 _ _ _ = _
  have e0 := q94_0 (b : Int) σ
  rw [show (25 + (b : Int)) = ((25 + b : Nat) : Int) by omega, wr_id (by omega) (by omega), if_pos (by omega), toN, (h6 b hb).1, hmu, ban_not _ _ (by omega)] at e0
  exact e0
-- wants(i, bar, ahead)
theorem wants_all {n B i bar ah g bb mu : Nat} {mm aa kk ss : Nat → Nat} {σ : Sg} (hT : ToldM σ n B mm aa) (hG : GoIn σ n kk ss g bb mu) (hb : ∀ i, i < n → σ 49 i = ((bsM n ss g i : Nat) : Int)) (hi : i < n) (hbar : bar < 8) (hah : ah < 2 ^ n) : Cal 93 [vR 40, vI i, vI bar, vI ah] σ = some (vI (if wantsS n kk mm ss g bb i bar ah = true then 1 else 0), σ) := by
  obtain ⟨h1, h2, h3, h4, h5, h6⟩ := hT
  obtain ⟨g1, g2, g3, g4, g5, g6, g7, g8⟩ := hG
  have hp7 := p2_7 h2
  have hm := (h5 i hi).2
  have hk4 := (g2 i hi).2
  have hbl := bsM_lt n ss g i
  show Run 93 0 _ _ _ = _
  have e0 := q93_0 (i : Int) (bar : Int) (ah : Int) σ
  have t1 : ((1 : Int) = 0 ∨ (1 : Int) = 1) := Or.inr rfl
  have t0 : ((0 : Int) = 0 ∨ (0 : Int) = 1) := Or.inl rfl
  have wi : wr (i : Int) = i := wr_id (by omega) (by omega)
  have e11 : (11 + (i : Int)) = ((11 + i : Nat) : Int) := by omega
  have w11 : wr ((11 + i : Nat) : Int) = ((11 + i : Nat) : Int) := wr_id (by omega) (by omega)
  have wkk : wr (kk i : Int) = kk i := wr_id (by omega) (by omega)
  have wbar : wr (bar : Int) = bar := wr_id (by omega) (by omega)
  have w2 : wr 2 = 2 := by decide
  have c7 : 0 ≤ (i : Int) ∧ (i : Int) < 7 := by omega
  have c40 : 0 ≤ ((11 + i : Nat) : Int) ∧ ((11 + i : Nat) : Int) < 40 := by omega
  refine e0.trans ?_
  simp only [if_pos t1, if_pos t0, wi, e11, w11, if_pos c7, if_pos c40, toN, (g2 i hi).1, wkk, (h5 i hi).1, hb i hi, g3, wbar, w2]
  unfold wantsS
  by_cases c0 : bb.testBit i = true
  · rw [if_pos ((bit_1 bb i (by omega) (by omega)).mpr c0)]
    simp [c0]
  · rw [if_neg (fun z => c0 ((bit_1 bb i (by omega) (by omega)).mp z))]
    have c0' : bb.testBit i = false := by simpa using c0
    by_cases k0 : kk i = 0
    · rw [if_pos (by omega)]
      simp [k0]
    · rw [if_neg (by omega), wr_1]
      by_cases k1 : kk i = 1
      · rw [if_pos (by omega)]
        by_cases c2 : (bsM n ss g i).testBit (mm i) = false
        · rw [if_pos ((bit_0 _ _ (by omega) (by omega)).mpr c2)]
          simp [k1, c2]
        · rw [if_neg (fun z => c2 ((bit_0 _ _ (by omega) (by omega)).mp z))]
          have c2' : (bsM n ss g i).testBit (mm i) = true := by simpa using c2
          simp [k1, c2', c0']
      · rw [if_neg (by omega)]
        by_cases b0 : bar = 0
        · rw [if_pos (by omega)]
          simp [k1, b0]
        · rw [if_neg (by omega)]
          by_cases k2 : kk i = 2
          · rw [if_pos (by omega)]
            by_cases c3 : ah.testBit (mm i) = true
            · have := (bit_1 ah (mm i) (by omega) (by omega)).mpr c3
              rw [wr_1] at this
              rw [if_pos this]
              simp [k2, c3]
            · have : ¬ wr (ban (bsr (ah : Int) (mm i)) 1) = 1 := fun z => c3 ((bit_1 ah (mm i) (by omega) (by omega)).mp (by rw [wr_1]; exact z))
              have c3' : ah.testBit (mm i) = false := by simpa using c3
              rw [if_neg this]
              simp [k2, c3', c0', b0]
          · rw [if_neg (by omega)]
            by_cases c3 : bsM n ss g i &&& ah = 0
            · rw [if_pos ((ban_0 _ _ (by omega)).mpr c3)]
              simp [k2, c3, k1]
            · rw [if_neg (fun z => c3 ((ban_0 _ _ (by omega)).mp z))]
              simp [k2, c3, c0', b0, k1, k0]
-- a bar
theorem bar_loop {n B g bb mu b ah : Nat} {mm aa kk ss : Nat → Nat} {σ : Sg} (x1 : Int) (hT : ToldM σ n B mm aa) (hG : GoIn σ n kk ss g bb mu) (hbs : ∀ i, i < n → σ 49 i = ((bsM n ss g i : Nat) : Int)) (hb : b < B) (hah : ah < 2 ^ n) : ∀ (d k : Nat), k + d = n →
    Run 95 131 [vR 40, vI x1, vI ah, vI b, vI ((mk k (fun i => (andn (aa b) mu).testBit i && wantsS n kk mm ss g bb i b ah) : Nat) : Int), vI k] [] σ = Run 95 202 [vR 40, vI x1, vI ah, vI b, vI ((nowS n kk mm (fun j => andn (aa j) mu) ss g bb b ah : Nat) : Int), vI n] [vI (if nowS n kk mm (fun j => andn (aa j) mu) ss g bb b ah = andn (aa b) mu then 1 else 0), vI x1] σ
  | 0, k, h => by
    have hk : k = n := by omega
    subst hk
    have h7 := hT.2.1
    have hp7 := p2_7 h7
    have hB8 := hT.2.2.2.1
    have l1 := nowS_lt k kk mm (fun j => andn (aa j) mu) ss g bb b ah
    have l2 := andn_le (aa b) mu
    have l3 := (hT.2.2.2.2.2 b hb).2
    rw [q95_131, wr_0, if_pos (by omega)]
    simp only [Int.toNat_zero, hT.1]
    rw [if_neg (by omega), asked_all hT hG.2.2.2.2.2.2.1 hb, kcI_s]
    have e1 : mk k (fun i => (andn (aa b) mu).testBit i && wantsS k kk mm ss g bb i b ah) = nowS k kk mm (fun j => andn (aa j) mu) ss g bb b ah := rfl
    rw [e1, wr_id (x := ((nowS k kk mm (fun j => andn (aa j) mu) ss g bb b ah : Nat) : Int)) (by omega) (by omega), wr_id (x := ((andn (aa b) mu : Nat) : Int)) (by omega) (by omega)]
    by_cases c0 : nowS k kk mm (fun j => andn (aa j) mu) ss g bb b ah = andn (aa b) mu
    · rw [if_pos (by omega), if_pos c0]
    · rw [if_neg (by omega), if_neg c0]
  | d + 1, k, h => by
    have h7 := hT.2.1
    have hp7 := p2_7 h7
    have hB8 := hT.2.2.2.1
    have hk : k < n := by omega
    have l2 := andn_le (aa b) mu
    have l3 := (hT.2.2.2.2.2 b hb).2
    have lm : mk k (fun i => (andn (aa b) mu).testBit i && wantsS n kk mm ss g bb i b ah) < 2 ^ n := Nat.lt_of_lt_of_le (mk_lt _ _) (Nat.pow_le_pow_right (by decide) (by omega))
    have lk := p2_lt hk
    have ih := bar_loop x1 hT hG hbs hb hah d (k + 1) (by omega)
    have ek : ((k : Int) + 1) = ((k + 1 : Nat) : Int) := by omega
    rw [q95_131, wr_0, if_pos (by omega)]
    simp only [Int.toNat_zero, hT.1]
    rw [wr_id (x := (k : Int)) (by omega) (by omega), wr_id (x := (n : Int)) (by omega) (by omega), if_pos (by omega), asked_all hT hG.2.2.2.2.2.2.1 hb, kcI_s, ek]
    have z0 : bor ((mk k (fun i => (andn (aa b) mu).testBit i && wantsS n kk mm ss g bb i b ah) : Nat) : Int) 0 = ((mk k (fun i => (andn (aa b) mu).testBit i && wantsS n kk mm ss g bb i b ah) : Nat) : Int) := by
      have := bor_n (mk k (fun i => (andn (aa b) mu).testBit i && wantsS n kk mm ss g bb i b ah)) 0 (by omega) (by decide)
      rw [Nat.or_zero] at this
      exact this
    have step : ∀ c : Bool, c = ((andn (aa b) mu).testBit k && wantsS n kk mm ss g bb k b ah) → mk (k + 1) (fun i => (andn (aa b) mu).testBit i && wantsS n kk mm ss g bb i b ah) = (mk k (fun i => (andn (aa b) mu).testBit i && wantsS n kk mm ss g bb i b ah) ||| (if c = true then 2 ^ k else 0)) := fun c hc => by rw [hc]; rfl
    by_cases c0 : (andn (aa b) mu).testBit k = true
    · rw [if_pos ((bit_1 _ _ (by omega) (by omega)).mpr c0), wants_all hT hG hbs hk (by omega) hah, kcI_s]
      by_cases c1 : wantsS n kk mm ss g bb k b ah = true
      · rw [if_pos c1, wr_1, if_neg (by decide), bsl1_n k (by omega), bor_n _ _ (by omega) (by omega)]
        rw [step true (by rw [c0, c1]; rfl), if_pos rfl] at ih
        exact ih
      · rw [if_neg c1, wr_0, if_pos rfl, z0]
        have c1' : wantsS n kk mm ss g bb k b ah = false := by simpa using c1
        rw [step false (by rw [c0, c1']; rfl), if_neg (by decide), Nat.or_zero] at ih
        exact ih
    · rw [if_neg (fun z => c0 ((bit_1 _ _ (by omega) (by omega)).mp z)), z0]
      have c0' : (andn (aa b) mu).testBit k = false := by simpa using c0
      rw [step false (by rw [c0']; rfl), if_neg (by decide), Nat.or_zero] at ih
      exact ih
def GoB (σ : Sg) (n : Nat) (kk mm aa ss : Nat → Nat) (g bb b : Nat) : Prop :=
  σ 40 19 = ((ntS n kk mm aa ss g bb b : Nat) : Int) ∧ (∀ j, j < b → σ 51 j = ((plS n kk mm aa ss g bb j : Nat) : Int)) ∧ (∀ i, i < n → σ 49 i = ((bsM n ss g i : Nat) : Int))
theorem bars_loop {n B g bb mu : Nat} {mm aa kk ss : Nat → Nat} : ∀ (d b : Nat) (σ : Sg) (x4 x5 : AV), b + d = B → ToldM σ n B mm aa → GoIn σ n kk ss g bb mu → GoB σ n kk mm (fun j => andn (aa j) mu) ss g bb b →
    ∃ σ', Run 95 115 [vR 40, vI ((whS n kk mm (fun j => andn (aa j) mu) ss g bb b : Nat) : Int), vI ((ahS n kk mm (fun j => andn (aa j) mu) ss g bb b : Nat) : Int), vI b, x4, x5] [] σ = some (vI ((whS n kk mm (fun j => andn (aa j) mu) ss g bb B : Nat) : Int), σ') ∧ (∀ q, q ≠ 40 → q ≠ 51 → σ' q = σ q) ∧ (∀ j, j ≠ 19 → σ' 40 j = σ 40 j) ∧ GoB σ' n kk mm (fun j => andn (aa j) mu) ss g bb B
  | 0, b, σ, x4, x5, h, hT, hG, hE => by
    have hb : b = B := by omega
    subst hb
    have h8 := hT.2.2.2.1
    refine ⟨σ, ?_, fun _ _ _ => rfl, fun _ _ => rfl, hE⟩
    rw [q95_115, wr_1, if_pos (by omega)]
    simp only [show (1 : Int).toNat = 1 from rfl, hT.2.2.1]
    rw [if_neg (by omega)]
  | d + 1, b, σ, x4, x5, h, hT, hG, hE => by
    have h7 := hT.2.1
    have hp7 := p2_7 h7
    have h8 := hT.2.2.2.1
    have hb : b < B := by omega
    obtain ⟨g1, g2, g3⟩ := hE
    have l1 := nowS_lt n kk mm (fun j => andn (aa j) mu) ss g bb b (ahS n kk mm (fun j => andn (aa j) mu) ss g bb b)
    have bl := bar_loop (x1 := ((whS n kk mm (fun j => andn (aa j) mu) ss g bb b : Nat) : Int)) hT hG g3 hb (ahS_lt n kk mm (fun j => andn (aa j) mu) ss g bb b) n 0 (by omega)
    rw [q95_115, wr_1, if_pos (by omega)]
    simp only [show (1 : Int).toNat = 1 from rfl, hT.2.2.1]
    rw [wr_id (x := (b : Int)) (by omega) (by omega), wr_id (x := (B : Int)) (by omega) (by omega), if_pos (by omega)]
    have bl0 : Run 95 131 [vR 40, vI ((whS n kk mm (fun j => andn (aa j) mu) ss g bb b : Nat) : Int), vI ((ahS n kk mm (fun j => andn (aa j) mu) ss g bb b : Nat) : Int), vI b, vI 0, vI 0] [] σ = _ := bl
    rw [bl0, q95_202, ones_all _ (by omega), kcI_s, wr_id (x := (b : Int)) (by omega) (by omega), if_pos (by omega), toN, g1, ← plS_eq]
    have e1 : ((whS n kk mm (fun j => andn (aa j) mu) ss g bb b : Nat) : Int) + (if plS n kk mm (fun j => andn (aa j) mu) ss g bb b = andn (aa b) mu then 1 else 0) = ((whS n kk mm (fun j => andn (aa j) mu) ss g bb (b + 1) : Nat) : Int) := by
      show _ = (((whS n kk mm (fun j => andn (aa j) mu) ss g bb b + _ : Nat)) : Int)
      split <;> simp
    have e2 : ((ntS n kk mm (fun j => andn (aa j) mu) ss g bb b : Nat) : Int) + ((popc 8 (plS n kk mm (fun j => andn (aa j) mu) ss g bb b) : Nat) : Int) = ((ntS n kk mm (fun j => andn (aa j) mu) ss g bb (b + 1) : Nat) : Int) := rfl
    rw [e1, e2]
    obtain ⟨σ', r1, r2, r3, r4⟩ := bars_loop d (b + 1) (up (up σ 40 19 ((ntS n kk mm (fun j => andn (aa j) mu) ss g bb (b + 1) : Nat) : Int)) 51 b ((plS n kk mm (fun j => andn (aa j) mu) ss g bb b : Nat) : Int)) (vI ((plS n kk mm (fun j => andn (aa j) mu) ss g bb b : Nat) : Int)) (vI (n : Int)) (by omega) (hT.kept (by rw [up_ne (by decide), up_ne (by decide)])) (hG.kept (by rw [up_ne (by decide), up_ne (by decide)]) (by rw [up_ne (by decide), up_ne (by decide)]) (by simp [up_at]) (by simp [up_at]) (by simp [up_at])) ⟨by simp [up_at], fun j hj => by
        rw [up_j]
        by_cases c : j = b
        · rw [if_pos c, c]
        · rw [if_neg c, up_p _ _ _ (by decide)]
          exact g2 j (by omega), fun i hi => by rw [up_p _ _ _ (by decide), up_p _ _ _ (by decide)]; exact g3 i hi⟩
    refine ⟨σ', r1, fun q q1 q2 => by rw [r2 q q1 q2, up_ne q2, up_ne q1], fun j hj => by rw [r3 j hj, up_p _ _ _ (by decide), up_j, if_neg hj], r4⟩
/-- AN EVENING of the reference -/
theorem go_all {n B g bb mu : Nat} {mm aa kk ss : Nat → Nat} {σ : Sg} (hT : ToldM σ n B mm aa) (hG : GoIn σ n kk ss g bb mu) (hpm : PermS n ss) (hn1 : 0 < n) :
    ∃ σ', Cal 95 [vR 40] σ = some (vI ((whS n kk mm (fun j => andn (aa j) mu) ss g bb B : Nat) : Int), σ') ∧ (∀ q, q ≠ 40 → q ≠ 49 → q ≠ 51 → σ' q = σ q) ∧ (∀ j, j ≠ 19 → σ' 40 j = σ 40 j) ∧ GoB σ' n kk mm (fun j => andn (aa j) mu) ss g bb B := by
  obtain ⟨s1, a1, a2, a3, -⟩ := go1 n 0 σ (by omega) hT
  obtain ⟨s2, b1, b2, b3⟩ := go2 (g := g) (bb := bb) (mu := mu) (kk := kk) hpm hn1 (n - 1) 0 s1 (by omega) (hT.kept (a2 _ (by decide))) (hG.kept (a2 _ (by decide)) (a2 _ (by decide)) (by rw [a2 _ (by decide)]) (by rw [a2 _ (by decide)]) (by rw [a2 _ (by decide)])) (fun i hi => by
    rw [a3 i (by omega) hi]
    have : bsK n 0 ss g i = 0 := by
      refine eq_mask (bsK_lt _ _ _ _ _) (Nat.two_pow_pos n) (fun j hj => ?_)
      unfold bsK
      rw [mk_bit]
      simp [nbK]
    rw [this]
    rfl)
  have hT2 : ToldM (up s2 40 19 0) n B mm aa := hT.kept (by rw [up_ne (by decide), b2 _ (by decide), a2 _ (by decide)])
  have hG2 : GoIn (up s2 40 19 0) n kk ss g bb mu := hG.kept (by rw [up_ne (by decide), b2 _ (by decide), a2 _ (by decide)]) (by rw [up_ne (by decide), b2 _ (by decide), a2 _ (by decide)]) (by simp [up_at, b2, a2]) (by simp [up_at, b2, a2]) (by simp [up_at, b2, a2])
  obtain ⟨σ', c1, c2, c3, c4⟩ := bars_loop B 0 (up s2 40 19 0) vJ vJ (by omega) hT2 hG2 ⟨by simp [up_at, ntS], fun j hj => by omega, fun i hi => by rw [up_p _ _ _ (by decide)]; exact b3 i hi⟩
  refine ⟨σ', ?_, fun q q1 q2 q3 => by rw [c2 q q1 q3, up_ne q1, b2 q q2, a2 q q2], fun j hj => by rw [c3 j hj, up_j, if_neg hj, b2 _ (by decide), a2 _ (by decide)], c4⟩
  show Run 95 0 _ _ _ = _
  exact (q95_0 σ).trans (a1.trans (b1.trans c1))
