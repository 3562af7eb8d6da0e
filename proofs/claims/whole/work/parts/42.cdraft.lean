/-! THE TEXT in the class: the draft -/
theorem aI_0 {D : Dt} {a b c j : Nat} : addI D a b c 0 j = if j = 0 then D 0 0 + 1 else D 0 j := by
  unfold addI
  rw [dq_j, dq_q _ _ _ _ (by decide), dq_q _ _ _ _ (by decide), dq_q _ _ _ _ (by decide)]
theorem aI_1 {D : Dt} {a b c j : Nat} : addI D a b c 1 j = if j = D 0 0 then a else D 1 j := by
  unfold addI
  rw [dq_q _ _ _ _ (by decide), dq_q _ _ _ _ (by decide), dq_q _ _ _ _ (by decide), dq_j]
theorem aI_2 {D : Dt} {a b c j : Nat} : addI D a b c 2 j = if j = D 0 0 then b else D 2 j := by
  unfold addI
  rw [dq_q _ _ _ _ (by decide), dq_q _ _ _ _ (by decide), dq_j, dq_q _ _ _ _ (by decide)]
theorem aI_3 {D : Dt} {a b c j : Nat} : addI D a b c 3 j = if j = D 0 0 then c else D 3 j := by
  unfold addI
  rw [dq_q _ _ _ _ (by decide), dq_j, dq_q _ _ _ _ (by decide), dq_q _ _ _ _ (by decide)]
theorem aI_q {D : Dt} {a b c q j : Nat} (h : 4 ≤ q) : addI D a b c q j = D q j := by
  unfold addI
  rw [dq_q _ _ _ _ (by omega), dq_q _ _ _ _ (by omega), dq_q _ _ _ _ (by omega), dq_q _ _ _ _ (by omega)]
theorem aB_0 {D : Dt} {a b j : Nat} : addB D a b 0 j = if j = 1 then D 0 1 + 1 else D 0 j := by
  unfold addB
  rw [dq_j, dq_q _ _ _ _ (by decide)]
theorem aB_4 {D : Dt} {a b j : Nat} : addB D a b 4 j = if j = D 0 1 then a + 16 * b else D 4 j := by
  unfold addB
  rw [dq_q _ _ _ _ (by decide), dq_j]
theorem aB_q {D : Dt} {a b q j : Nat} (h : q ≠ 0) (h4 : q ≠ 4) : addB D a b q j = D q j := by
  unfold addB
  rw [dq_q _ _ _ _ h, dq_q _ _ _ _ h4]
theorem aG_0 {D : Dt} {k j : Nat} : addG D k 0 j = if j = 2 then D 0 2 ||| 2 ^ k else D 0 j := by
  unfold addG
  rw [dq_j]
theorem aG_q {D : Dt} {k q j : Nat} (h : q ≠ 0) : addG D k q j = D q j := by
  unfold addG
  rw [dq_q _ _ _ _ h]
def DrC (σ : Sg) (D : Dt) : Prop := (σ 14 3 = ((D 0 0 : Nat) : Int) ∧ σ 14 5 = ((D 0 1 : Nat) : Int) ∧ σ 14 8 = ((D 0 2 : Nat) : Int) ∧ σ 14 7 = ((D 0 3 : Nat) : Int)) ∧ (∀ i, i < D 0 0 → σ 15 i = ((D 1 i : Nat) : Int) ∧ σ 16 i = ((D 2 i : Nat) : Int) ∧ σ 17 i = ((D 3 i : Nat) : Int)) ∧ (∀ b, b < D 0 1 → σ 18 b = ((D 4 b : Nat) : Int)) ∧ (∀ s, s < D 0 3 → σ 19 s = ((D 5 s : Nat) : Int))
theorem DrC.k {σ σ' : Sg} {D : Dt} (h : DrC σ D) (hq : ∀ q, 14 ≤ q → q ≤ 19 → σ' q = σ q) : DrC σ' D := by
  unfold DrC
  rw [hq 14 (by decide) (by decide), hq 15 (by decide) (by decide), hq 16 (by decide) (by decide), hq 17 (by decide) (by decide), hq 18 (by decide) (by decide), hq 19 (by decide) (by decide)]
  exact h
def FrD (σ σ' : Sg) : Prop := ∀ q, q < 14 ∨ 19 < q → σ' q = σ q
theorem c_addI {D : Dt} {σ : Sg} {a b c : Nat} (hR : OkR D) (hD : DrC σ D) (ha : a ≤ 99) (hb : b ≤ 99) (hc : c ≤ 99) : (D 0 0 < 7 ∧ a < 4 ∧ b < 7 ∧ c ≤ 30 → ∃ σ', Cal 2 [vR 14, vI a, vI b, vI c] σ = some (vI 1, σ') ∧ DrC σ' (addI D a b c) ∧ FrD σ σ') ∧ (¬ (D 0 0 < 7 ∧ a < 4 ∧ b < 7 ∧ c ≤ 30) → Cal 2 [vR 14, vI a, vI b, vI c] σ = some (vI 0, σ)) := by
  have hn := hR.1.1
  have w7 : wr 7 = 7 := by decide
  have w4 : wr 4 = 4 := by decide
  have w30 : wr 30 = 30 := by decide
  have e0 : Cal 2 [vR 14, vI a, vI b, vI c] σ = _ := q2_0 (a : Int) (b : Int) (c : Int) σ
  have u15 : ∀ (τ : Sg) (i : Nat) (x : Int) (j : Nat), up τ 15 i x 14 j = τ 14 j := fun _ _ _ _ => up_p _ _ _ (by decide)
  have u16 : ∀ (τ : Sg) (i : Nat) (x : Int) (j : Nat), up τ 16 i x 14 j = τ 14 j := fun _ _ _ _ => up_p _ _ _ (by decide)
  have u17 : ∀ (τ : Sg) (i : Nat) (x : Int) (j : Nat), up τ 17 i x 14 j = τ 14 j := fun _ _ _ _ => up_p _ _ _ (by decide)
  simp only [u15, u16, u17] at e0
  rw [hD.1.1, w7, w4, w30, wr_id (x := ((D 0 0 : Nat) : Int)) (by omega) (by omega), wr_id (x := (a : Int)) (by omega) (by omega), wr_id (x := (b : Int)) (by omega) (by omega), wr_id (x := (c : Int)) (by omega) (by omega), toN, if_pos (Or.inl trivial), if_pos (Or.inr trivial)] at e0
  refine ⟨fun h => ?_, fun h => ?_⟩
  · rw [if_pos (show ((D 0 0 : Nat) : Int) < 7 by omega), if_pos (show (a : Int) < 4 by omega), if_pos (show (b : Int) < 7 by omega), if_neg (show ¬ (30 : Int) < (c : Int) by omega), if_pos (show 0 ≤ ((D 0 0 : Nat) : Int) ∧ ((D 0 0 : Nat) : Int) < 7 by omega), if_pos (show 0 ≤ ((D 0 0 : Nat) : Int) ∧ ((D 0 0 : Nat) : Int) < 7 by omega), if_pos (show 0 ≤ ((D 0 0 : Nat) : Int) ∧ ((D 0 0 : Nat) : Int) < 7 by omega)] at e0
    obtain ⟨⟨d1, d2, d3, d4⟩, d5, d6, d7⟩ := hD
    refine ⟨_, e0, ⟨⟨?_, ?_, ?_, ?_⟩, fun i hi => ⟨?_, ?_, ?_⟩, fun j hj => ?_, fun s hs => ?_⟩, fun q hq => ?_⟩
    · rw [aI_0, if_pos rfl, up_e]; rfl
    · rw [aI_0, if_neg (by decide), up_j, if_neg (by decide), u17, u16, u15, d2]
    · rw [aI_0, if_neg (by decide), up_j, if_neg (by decide), u17, u16, u15, d3]
    · rw [aI_0, if_neg (by decide), up_j, if_neg (by decide), u17, u16, u15, d4]
    · rw [aI_0, if_pos rfl] at hi
      rw [aI_1, up_p _ _ _ (by decide), up_p _ _ _ (by decide), up_p _ _ _ (by decide), up_j]
      by_cases g : i = D 0 0
      · rw [if_pos g, if_pos g]
      · rw [if_neg g, if_neg g]; exact (d5 i (by omega)).1
    · rw [aI_0, if_pos rfl] at hi
      rw [aI_2, up_p _ _ _ (by decide), up_p _ _ _ (by decide), up_j]
      by_cases g : i = D 0 0
      · rw [if_pos g, if_pos g]
      · rw [if_neg g, if_neg g, up_p _ _ _ (by decide)]; exact (d5 i (by omega)).2.1
    · rw [aI_0, if_pos rfl] at hi
      rw [aI_3, up_p _ _ _ (by decide), up_j]
      by_cases g : i = D 0 0
      · rw [if_pos g, if_pos g]
      · rw [if_neg g, if_neg g, up_p _ _ _ (by decide), up_p _ _ _ (by decide)]; exact (d5 i (by omega)).2.2
    · rw [aI_0, if_neg (by decide)] at hj
      rw [aI_q (by decide), up_p _ _ _ (by decide), up_p _ _ _ (by decide), up_p _ _ _ (by decide), up_p _ _ _ (by decide)]
      exact d6 j hj
    · rw [aI_0, if_neg (by decide)] at hs
      rw [aI_q (by decide), up_p _ _ _ (by decide), up_p _ _ _ (by decide), up_p _ _ _ (by decide), up_p _ _ _ (by decide)]
      exact d7 s hs
    · rw [up_ne (by omega), up_ne (by omega), up_ne (by omega), up_ne (by omega)]
  · by_cases h1 : D 0 0 < 7
    · rw [if_pos (show ((D 0 0 : Nat) : Int) < 7 by omega)] at e0
      by_cases h2 : a < 4
      · rw [if_pos (show (a : Int) < 4 by omega)] at e0
        by_cases h3 : b < 7
        · rw [if_pos (show (b : Int) < 7 by omega), if_pos (show (30 : Int) < (c : Int) by omega)] at e0
          exact e0
        · rw [if_neg (show ¬ (b : Int) < 7 by omega)] at e0
          exact e0
      · rw [if_neg (show ¬ (a : Int) < 4 by omega)] at e0
        exact e0
    · rw [if_neg (show ¬ ((D 0 0 : Nat) : Int) < 7 by omega)] at e0
      exact e0
theorem or_16 : ∀ a, a < 16 → ∀ b, b < 8 → a ||| b * 2 ^ 4 = a + 16 * b := by decide +kernel
theorem c_addB {D : Dt} {σ : Sg} {a b : Nat} (hR : OkR D) (hD : DrC σ D) (ha : a ≤ 99) (hb : b ≤ 99) : (D 0 1 < 8 ∧ a ≤ 15 ∧ b ≤ 7 → ∃ σ', Cal 3 [vR 14, vI a, vI b] σ = some (vI 1, σ') ∧ DrC σ' (addB D a b) ∧ FrD σ σ') ∧ (¬ (D 0 1 < 8 ∧ a ≤ 15 ∧ b ≤ 7) → Cal 3 [vR 14, vI a, vI b] σ = some (vI 0, σ)) := by
  have hn := hR.1.2.1
  have w7 : wr 7 = 7 := by decide
  have w8 : wr 8 = 8 := by decide
  have w15 : wr 15 = 15 := by decide
  have e0 : Cal 3 [vR 14, vI a, vI b] σ = _ := q3_0 (a : Int) (b : Int) σ
  have u18 : ∀ (τ : Sg) (i : Nat) (x : Int) (j : Nat), up τ 18 i x 14 j = τ 14 j := fun _ _ _ _ => up_p _ _ _ (by decide)
  simp only [u18] at e0
  rw [hD.1.2.1, w7, w8, w15, wr_id (x := ((D 0 1 : Nat) : Int)) (by omega) (by omega), wr_id (x := (a : Int)) (by omega) (by omega), wr_id (x := (b : Int)) (by omega) (by omega), toN, if_pos (Or.inl trivial), if_pos (Or.inr trivial)] at e0
  refine ⟨fun h => ?_, fun h => ?_⟩
  · have e1 : bsl (b : Int) 4 = ((b * 2 ^ 4 : Nat) : Int) := bsl_n b 4 (by decide) (by omega)
    have e2 : bor (a : Int) ((b * 2 ^ 4 : Nat) : Int) = ((a + 16 * b : Nat) : Int) := by
      rw [bor_n a (b * 2 ^ 4) (by omega) (by omega), or_16 a (by omega) b (by omega)]
    rw [if_pos (show ((D 0 1 : Nat) : Int) < 8 by omega), if_neg (show ¬ (15 : Int) < (a : Int) by omega), if_neg (show ¬ (7 : Int) < (b : Int) by omega), if_pos (show 0 ≤ ((D 0 1 : Nat) : Int) ∧ ((D 0 1 : Nat) : Int) < 8 by omega), e1, e2] at e0
    obtain ⟨⟨d1, d2, d3, d4⟩, d5, d6, d7⟩ := hD
    refine ⟨_, e0, ⟨⟨?_, ?_, ?_, ?_⟩, fun i hi => ⟨?_, ?_, ?_⟩, fun j hj => ?_, fun s hs => ?_⟩, fun q hq => ?_⟩
    · rw [aB_0, if_neg (by decide), up_j, if_neg (by decide), u18, d1]
    · rw [aB_0, if_pos rfl, up_e]; rfl
    · rw [aB_0, if_neg (by decide), up_j, if_neg (by decide), u18, d3]
    · rw [aB_0, if_neg (by decide), up_j, if_neg (by decide), u18, d4]
    · rw [aB_0, if_neg (by decide)] at hi
      rw [aB_q (by decide) (by decide), up_p _ _ _ (by decide), up_p _ _ _ (by decide)]
      exact (d5 i hi).1
    · rw [aB_0, if_neg (by decide)] at hi
      rw [aB_q (by decide) (by decide), up_p _ _ _ (by decide), up_p _ _ _ (by decide)]
      exact (d5 i hi).2.1
    · rw [aB_0, if_neg (by decide)] at hi
      rw [aB_q (by decide) (by decide), up_p _ _ _ (by decide), up_p _ _ _ (by decide)]
      exact (d5 i hi).2.2
    · rw [aB_0, if_pos rfl] at hj
      rw [aB_4, up_p _ _ _ (by decide), up_j]
      by_cases g : j = D 0 1
      · rw [if_pos g, if_pos g]
      · rw [if_neg g, if_neg g]; exact d6 j (by omega)
    · rw [aB_0, if_neg (by decide)] at hs
      rw [aB_q (by decide) (by decide), up_p _ _ _ (by decide), up_p _ _ _ (by decide)]
      exact d7 s hs
    · rw [up_ne (by omega), up_ne (by omega)]
  · by_cases h1 : D 0 1 < 8
    · rw [if_pos (show ((D 0 1 : Nat) : Int) < 8 by omega)] at e0
      by_cases h2 : a ≤ 15
      · rw [if_neg (show ¬ (15 : Int) < (a : Int) by omega), if_pos (show (7 : Int) < (b : Int) by omega)] at e0
        exact e0
      · rw [if_pos (show (15 : Int) < (a : Int) by omega)] at e0
        exact e0
    · rw [if_neg (show ¬ ((D 0 1 : Nat) : Int) < 8 by omega)] at e0
      exact e0
theorem c_told {σ : Sg} {e m : Nat} {f : Nat → Nat} (he : e = 14 ∨ e = 20) (hm : σ e 7 = (m : Int)) (hm7 : m ≤ 7) (hf : ∀ s, s < m → σ (e + 5) s = ((f s : Nat) : Int) ∧ f s < 7) : ∀ (r s : Nat), s + r = m → Run 4 4 [vR e, vI ((tsM f s : Nat) : Int), vI s] [] σ = some (vI ((tsM f m : Nat) : Int), σ)
  | 0, s, h => by
    have es : s = m := by omega
    rw [q4_4 _ _ _ _ he, hm, wr_id (x := (s : Int)) (by omega) (by omega), wr_id (x := (m : Int)) (by omega) (by omega), if_neg (by omega), es]
  | r + 1, s, h => by
    have h1 := hf s (by omega)
    have l1 : tsM f s < 2 ^ 7 := tsM_lt s (fun t ht => (hf t (by omega)).2)
    have l2 : 2 ^ f s < 2 ^ 7 := p2_lt h1.2
    have e1 : bor ((tsM f s : Nat) : Int) (bsl 1 ((f s : Nat) : Int)) = ((tsM f (s + 1) : Nat) : Int) := by
      rw [bsl1_n (f s) (by omega)]
      exact bor_n _ _ (by omega) (by omega)
    rw [q4_4 _ _ _ _ he, hm, wr_id (x := (s : Int)) (by omega) (by omega), wr_id (x := (m : Int)) (by omega) (by omega), if_pos (by omega), if_pos (by omega), toN, h1.1, e1]
    exact c_told he hm hm7 hf r (s + 1) (by omega)
theorem c_addS {D : Dt} {σ : Sg} {i : Nat} (hR : OkR D) (hD : DrC σ D) (hi : i ≤ 99) : (i < D 0 0 → ∃ σ', Cal 5 [vR 14, vI i] σ = some (vI 1, σ') ∧ DrC σ' (addS D i) ∧ FrD σ σ') ∧ (¬ i < D 0 0 → Cal 5 [vR 14, vI i] σ = some (vI 0, σ)) := by
  have hn := hR.1.1
  have w7 : wr 7 = 7 := by decide
  have hS := hR.2.2.2
  have hm7 : D 0 3 ≤ 7 := by have := hS.2.2; omega
  have e0 : Cal 5 [vR 14, vI i] σ = _ := q5_0 (i : Int) σ
  have et : Cal 4 [vR 14] σ = some (vI ((tsM (D 5) (D 0 3) : Nat) : Int), σ) := (q4_0 14 σ (Or.inl rfl)).trans (c_told (f := D 5) (Or.inl rfl) hD.1.2.2.2 hm7 (fun s hs => ⟨hD.2.2.2 s hs, by have := hS.1 s hs; omega⟩) (D 0 3) 0 (by omega))
  have l1 : tsM (D 5) (D 0 3) < 2 ^ 7 := tsM_lt _ (fun t ht => by have := hS.1 t ht; omega)
  have u19 : ∀ (τ : Sg) (i : Nat) (x : Int) (j : Nat), up τ 19 i x 14 j = τ 14 j := fun _ _ _ _ => up_p _ _ _ (by decide)
  simp only [u19] at e0
  rw [et, kcI_s, hD.1.1, hD.1.2.2.2, w7, wr_id (x := (i : Int)) (by omega) (by omega), wr_id (x := ((D 0 0 : Nat) : Int)) (by omega) (by omega), wr_id (x := ((D 0 3 : Nat) : Int)) (by omega) (by omega), toN, if_pos (Or.inr trivial), if_pos (Or.inr trivial), if_pos (Or.inl trivial)] at e0
  refine ⟨fun h => ?_, fun h => ?_⟩
  · rw [if_pos (show (i : Int) < ((D 0 0 : Nat) : Int) by omega)] at e0
    unfold addS
    by_cases c : (tsM (D 5) (D 0 3)).testBit i = true
    · rw [if_neg (fun z => by rw [(bit_0 _ i (by omega) (by omega)).mp z] at c; cases c)] at e0
      rw [if_pos c]
      exact ⟨σ, e0, hD, fun _ _ => rfl⟩
    · have c' : (tsM (D 5) (D 0 3)).testBit i = false := by simpa using c
      have hm := hS.lt (by omega) c'
      rw [if_pos ((bit_0 _ i (by omega) (by omega)).mpr c'), if_pos (show ((D 0 3 : Nat) : Int) < 7 by omega), if_pos (show 0 ≤ ((D 0 3 : Nat) : Int) ∧ ((D 0 3 : Nat) : Int) < 7 by omega)] at e0
      rw [if_neg c]
      obtain ⟨⟨d1, d2, d3, d4⟩, d5, d6, d7⟩ := hD
      refine ⟨_, e0, ⟨⟨?_, ?_, ?_, ?_⟩, fun i hi => ⟨?_, ?_, ?_⟩, fun j hj => ?_, fun s hs => ?_⟩, fun q hq => ?_⟩
      · rw [dq_j, if_neg (by decide), dq_q _ _ _ _ (by decide), up_j, if_neg (by decide), u19, d1]
      · rw [dq_j, if_neg (by decide), dq_q _ _ _ _ (by decide), up_j, if_neg (by decide), u19, d2]
      · rw [dq_j, if_neg (by decide), dq_q _ _ _ _ (by decide), up_j, if_neg (by decide), u19, d3]
      · rw [dq_j, if_pos rfl, up_e]; rfl
      · rw [dq_j, if_neg (by decide), dq_q _ _ _ _ (by decide)] at hi
        rw [dq_q _ _ _ _ (by decide), dq_q _ _ _ _ (by decide), up_p _ _ _ (by decide), up_p _ _ _ (by decide)]
        exact (d5 i hi).1
      · rw [dq_j, if_neg (by decide), dq_q _ _ _ _ (by decide)] at hi
        rw [dq_q _ _ _ _ (by decide), dq_q _ _ _ _ (by decide), up_p _ _ _ (by decide), up_p _ _ _ (by decide)]
        exact (d5 i hi).2.1
      · rw [dq_j, if_neg (by decide), dq_q _ _ _ _ (by decide)] at hi
        rw [dq_q _ _ _ _ (by decide), dq_q _ _ _ _ (by decide), up_p _ _ _ (by decide), up_p _ _ _ (by decide)]
        exact (d5 i hi).2.2
      · rw [dq_j, if_neg (by decide), dq_q _ _ _ _ (by decide)] at hj
        rw [dq_q _ _ _ _ (by decide), dq_q _ _ _ _ (by decide), up_p _ _ _ (by decide), up_p _ _ _ (by decide)]
        exact d6 j hj
      · rw [dq_j, if_pos rfl] at hs
        rw [dq_q _ _ _ _ (by decide), dq_j, up_p _ _ _ (by decide), up_j]
        by_cases g : s = D 0 3
        · rw [if_pos g, if_pos g]
        · rw [if_neg g, if_neg g]; exact d7 s (by omega)
      · rw [up_ne (by omega), up_ne (by omega)]
  · rw [if_neg (show ¬ (i : Int) < ((D 0 0 : Nat) : Int) by omega)] at e0
    exact e0
theorem c_addG {D : Dt} {σ : Sg} {k : Nat} (hR : OkR D) (hD : DrC σ D) (hk : k ≤ 99) : (k ≤ 5 → ∃ σ', Cal 6 [vR 14, vI k] σ = some (vI 1, σ') ∧ DrC σ' (addG D k) ∧ FrD σ σ') ∧ (¬ k ≤ 5 → Cal 6 [vR 14, vI k] σ = some (vI 0, σ)) := by
  have w5 : wr 5 = 5 := by decide
  have e0 : Cal 6 [vR 14, vI k] σ = _ := q6_0 (k : Int) σ
  rw [w5, wr_id (x := (k : Int)) (by omega) (by omega), if_pos (Or.inl rfl), if_pos (Or.inr rfl)] at e0
  refine ⟨fun h => ?_, fun h => ?_⟩
  · have l2 : 2 ^ k < 2 ^ 6 := p2_lt (by omega)
    have l3 := hR.1.2.2
    have e1 : bor ((D 0 2 : Nat) : Int) (bsl 1 (k : Int)) = ((D 0 2 ||| 2 ^ k : Nat) : Int) := by
      rw [bsl1_n k (by omega)]
      exact bor_n _ _ (by omega) (by omega)
    rw [if_neg (show ¬ (5 : Int) < (k : Int) by omega), hD.1.2.2.1, e1] at e0
    obtain ⟨⟨d1, d2, d3, d4⟩, d5, d6, d7⟩ := hD
    refine ⟨_, e0, ⟨⟨?_, ?_, ?_, ?_⟩, fun i hi => ⟨?_, ?_, ?_⟩, fun j hj => ?_, fun s hs => ?_⟩, fun q hq => ?_⟩
    · rw [aG_0, if_neg (by decide), up_j, if_neg (by decide), d1]
    · rw [aG_0, if_neg (by decide), up_j, if_neg (by decide), d2]
    · rw [aG_0, if_pos rfl, up_e]
    · rw [aG_0, if_neg (by decide), up_j, if_neg (by decide), d4]
    · rw [aG_0, if_neg (by decide)] at hi
      rw [aG_q (by decide), up_p _ _ _ (by decide)]
      exact (d5 i hi).1
    · rw [aG_0, if_neg (by decide)] at hi
      rw [aG_q (by decide), up_p _ _ _ (by decide)]
      exact (d5 i hi).2.1
    · rw [aG_0, if_neg (by decide)] at hi
      rw [aG_q (by decide), up_p _ _ _ (by decide)]
      exact (d5 i hi).2.2
    · rw [aG_0, if_neg (by decide)] at hj
      rw [aG_q (by decide), up_p _ _ _ (by decide)]
      exact d6 j hj
    · rw [aG_0, if_neg (by decide)] at hs
      rw [aG_q (by decide), up_p _ _ _ (by decide)]
      exact d7 s hs
    · rw [up_ne (by omega)]
  · rw [if_pos (show (5 : Int) < (k : Int) by omega)] at e0
    exact e0
