/-! THE SURVEY in the class: all seatings, one behind another -/
theorem InvC.ks {σ σ' : Sg} {d : Dt} (h : InvC σ d) (hq : ∀ q, q < 29 → σ' q = σ q) (s : SurvI σ' d) : InvC σ' d := by
  have h10 : ∀ j, j < 2 → σ' (8 + j) = σ (8 + j) := fun j hj => hq _ (by omega)
  obtain ⟨⟨a1, a2, a3⟩, ⟨b1, b2⟩, ⟨c1, c2, c3, c4⟩, ⟨e1, e2⟩, ⟨f1, f2⟩, ⟨g1, g0, g2⟩, ⟨u1, u2⟩, _⟩ := h
  refine ⟨⟨a1.kept (hq _ (by decide)) (hq _ (by decide)) (hq _ (by decide)) (hq _ (by decide)), fun i hi => by rw [hq _ (by decide)]; exact a2 i hi, by rw [hq _ (by decide)]; exact a3⟩, ⟨b1.kept (hq _ (by decide)), by rw [hq _ (by decide)]; exact b2⟩, ⟨by rw [hq _ (by decide)]; exact c1, by rw [hq _ (by decide)]; exact c2, fun j hj => by rw [hq _ (by decide)]; exact c3 j hj, fun i hi => by rw [hq _ (by decide)]; exact c4 i hi⟩, ⟨by rw [hq _ (by decide)]; exact e1, fun j hj => by rw [hq _ (by decide)]; exact e2 j hj⟩, ⟨by rw [hq _ (by decide)]; exact f1, fun j hj => by rw [hq 4 (by decide), hq 5 (by decide), hq 6 (by decide)]; exact f2 j hj⟩, ⟨by rw [hq _ (by decide)]; exact g1, g0, fun j hj => ?_⟩, ⟨by rw [hq _ (by decide)]; exact u1, fun j hj => by rw [hq 3 (by decide)]; exact u2 j hj⟩, s⟩
  obtain ⟨x, y⟩ := g2 j hj
  exact ⟨x.kept (h10 j (by omega)), by rw [hq 10 (by decide)]; exact y⟩
theorem fac_le : ∀ n, n ≤ 7 → fac n ≤ 5040 := by decide
-- fill
theorem c_fill : ∀ (r k : Nat) (σ : Sg), k + r = 57 → ∃ σ', Run 23 5 [vR 31, vI 0, vI k, vI 57] [] σ = some (vI 0, σ') ∧ (∀ q, q ≠ 31 → σ' q = σ q) ∧ (∀ v, k ≤ v → v < 57 → σ' 31 v = 0) ∧ (∀ v, v < k → σ' 31 v = σ 31 v)
  | 0, k, σ, h => by
    refine ⟨σ, ?_, fun _ _ => rfl, fun v h1 h2 => by omega, fun _ _ => rfl⟩
    rw [q23_5, wr_id (x := (k : Int)) (by omega) (by omega), wr_id (x := 57) (by omega) (by omega), if_neg (by omega)]
  | r + 1, k, σ, h => by
    obtain ⟨σ', r1, r2, r3, r4⟩ := c_fill r (k + 1) (up σ 31 k 0) (by omega)
    refine ⟨σ', ?_, fun q hq => by rw [r2 q hq, up_ne hq], fun v h1 h2 => ?_, fun v hv => ?_⟩
    · rw [q23_5, wr_id (x := (k : Int)) (by omega) (by omega), wr_id (x := 57) (by omega) (by omega), if_pos (by omega), if_pos (by omega), toN]
      exact r1
    · rcases (show v = k ∨ k + 1 ≤ v by omega) with g | g
      · rw [g, r4 k (by omega), up_e]
      · exact r3 v g h2
    · rw [r4 v (by omega), up_j, if_neg (by omega)]
def BegK (σ : Sg) (d : Dt) (k : Nat) : Prop := σ 29 1 = ((fac k : Nat) : Int) ∧ (∀ i, i < k → σ 32 i = ((i : Nat) : Int)) ∧ (∀ i, i < k → σ 33 (d 5 i) = ((i : Nat) : Int))
theorem beg_loop {d : Dt} (hO : OkD d) : ∀ (r k : Nat) (σ : Sg), k + r = dn d → Rep σ 1 (dn d) (d 5) → BegK σ d k → ∃ σ', Run 24 7 [vR 29, vI (dn d), vR 1, vI k] [] σ = kcV (Cal 23 [vR 31, vI 0] (up (up (up (up σ' 29 2 0) 29 3 0) 29 4 (-4)) 29 5 (-1))) (fun s1 => some (vI 0, s1)) ∧ (∀ q, q ≠ 29 → q ≠ 32 → q ≠ 33 → σ' q = σ q) ∧ (∀ j, j ≠ 1 → σ' 29 j = σ 29 j) ∧ BegK σ' d (dn d)
  | 0, k, σ, h, hR, hK => by
    have hn := hO.1.2.1
    have e : k = dn d := by omega
    refine ⟨σ, ?_, fun _ _ _ _ => rfl, fun _ _ => rfl, by rw [← e]; exact hK⟩
    rw [q24_7, wr_id (x := (k : Int)) (by omega) (by omega), wr_id (x := (dn d : Int)) (by omega) (by omega), if_neg (by omega)]
  | r + 1, k, σ, h, hR, hK => by
    have hn := hO.1.2.1
    have hk : k < dn d := by omega
    have h5 := hO.2.2.2.1.1 k hk
    have e0 := q24_7 (dn d : Int) (k : Int) σ
    rw [wr_id (x := (k : Int)) (by omega) (by omega), wr_id (x := (dn d : Int)) (by omega) (by omega), if_pos (show (k : Int) < (dn d : Int) by omega), if_pos (show 0 ≤ (k : Int) ∧ (k : Int) < 7 by omega), if_pos (show 0 ≤ (k : Int) ∧ (k : Int) < 7 by omega), toN, hK.1] at e0
    have ef : ((fac k : Nat) : Int) * ((k : Int) + 1) = ((fac (k + 1) : Nat) : Int) := by
      show _ = ((fac k * (k + 1) : Nat) : Int)
      rw [Int.natCast_mul]
      rfl
    rw [ef] at e0
    obtain ⟨X, hX⟩ : ∃ X, X = up (up σ 29 1 ((fac (k + 1) : Nat) : Int)) 32 k (k : Int) := ⟨_, rfl⟩
    rw [← hX] at e0
    have x1 : X 1 = σ 1 := by rw [hX, up_ne (by decide), up_ne (by decide)]
    rw [x1, hR k hk, wr_id (x := ((d 5 k : Nat) : Int)) (by omega) (by omega), if_pos (show 0 ≤ ((d 5 k : Nat) : Int) ∧ ((d 5 k : Nat) : Int) < 7 by omega), toN] at e0
    obtain ⟨Y, hY⟩ : ∃ Y, Y = up X 33 (d 5 k) (k : Int) := ⟨_, rfl⟩
    rw [← hY] at e0
    have hK1 : BegK Y d (k + 1) := by
      refine ⟨?_, fun i hi => ?_, fun i hi => ?_⟩
      · rw [hY, up_p _ _ _ (by decide), hX, up_p _ _ _ (by decide), up_e]
      · rw [hY, up_p _ _ _ (by decide), hX, up_j]
        by_cases c : i = k
        · rw [if_pos c, c]
        · rw [if_neg c, up_p _ _ _ (by decide)]
          exact hK.2.1 i (by omega)
      · rw [hY, up_j]
        by_cases c : i = k
        · rw [c, if_pos rfl]
        · rw [if_neg (fun z => c (hO.2.2.2.1.2.1 i k (by omega) hk z)), hX, up_p _ _ _ (by decide), up_p _ _ _ (by decide)]
          exact hK.2.2 i (by omega)
    obtain ⟨σ', r1, r2, r3, r4⟩ := beg_loop hO r (k + 1) Y (by omega) (hR.kept (by rw [hY, up_ne (by decide), x1])) hK1
    refine ⟨σ', e0.trans r1, fun q q1 q2 q3 => by rw [r2 q q1 q2 q3, hY, up_ne q3, hX, up_ne q2, up_ne q1], fun j hj => ?_, r4⟩
    rw [r3 j hj, hY, up_p _ _ _ (by decide), hX, up_p _ _ _ (by decide), up_j, if_neg hj]
/-- where the survey stands behind k seatings -/
def SvK (σ : Sg) (d : Dt) (k : Nat) : Prop := σ 29 1 = ((fac (dn d) : Nat) : Int) ∧ Rep σ 32 (dn d) (pmF (dn d) k) ∧ (∀ v, v < dn d → σ 33 v = ((sof (d 5) v (dn d) : Nat) : Int)) ∧ SurvK σ d k
theorem c_begin {d : Dt} {σ : Sg} (hO : OkD d) (hR : Rep σ 1 (dn d) (d 5)) : ∃ σ', Cal 24 [vR 29, vI (dn d), vR 1] σ = some (vI 0, σ') ∧ (∀ q, q < 29 → σ' q = σ q) ∧ (∀ q, 34 ≤ q → σ' q = σ q) ∧ SvK σ' d 0 := by
  have e0 : Cal 24 [vR 29, vI (dn d), vR 1] σ = _ := q24_0 (dn d : Int) σ
  obtain ⟨s1, a1, a2, a3, a4⟩ := beg_loop hO (dn d) 0 (up σ 29 1 1) (by omega) (hR.kept (up_ne (by decide))) ⟨up_e _ _ _ _, fun i hi => by omega, fun i hi => by omega⟩
  obtain ⟨X, hX⟩ : ∃ X, X = up (up (up (up s1 29 2 0) 29 3 0) 29 4 (-4)) 29 5 (-1) := ⟨_, rfl⟩
  rw [← hX] at a1
  obtain ⟨s2, b1, b2, b3, -⟩ := c_fill 57 0 X (by omega)
  have b0 : Cal 23 [vR 31, vI 0] X = some (vI 0, s2) := (q23_0 0 X).trans b1
  have a1' : Run 24 7 [vR 29, vI (dn d), vR 1, vI 0] [] (up σ 29 1 1) = _ := a1
  rw [b0, kcV_s] at a1'
  have kX : ∀ q, q ≠ 29 → X q = s1 q := fun q hq => by rw [hX, up_ne hq, up_ne hq, up_ne hq, up_ne hq]
  refine ⟨s2, e0.trans a1', fun q hq => by rw [b2 q (by omega), kX q (by omega), a2 q (by omega) (by omega) (by omega), up_ne (by omega)], fun q hq => by rw [b2 q (by omega), kX q (by omega), a2 q (by omega) (by omega) (by omega), up_ne (by omega)], ?_, ?_, ?_, ?_, ?_, ?_, ?_, ?_, ?_⟩
  · rw [b2 29 (by decide), hX]
    simp only [up_at]
    simp [a4.1]
  · intro i hi
    rw [b2 32 (by decide), kX 32 (by decide)]
    exact a4.2.1 i hi
  · intro v hv
    obtain ⟨s, hs, e⟩ := hO.2.2.2.1.2.2 v hv
    rw [b2 33 (by decide), kX 33 (by decide), sof_perm hO.2.2.2.1 hs e, ← e]
    exact a4.2.2 s hs
  · rw [b2 29 (by decide), hX]
    simp [up_at, cnt]
  · rw [b2 29 (by decide), hX]
    simp [up_at, cnt]
  · rw [b2 29 (by decide), hX]
    simp [up_at, fewest]
  · rw [b2 29 (by decide), hX]
    simp [up_at, most]
  · intro h
    omega
  · intro v hv
    rw [b3 v (by omega) (by omega)]
    rfl
-- heard alike
theorem alK_iff {d : Dt} {k : Nat} : alK d k = true ↔ ∀ b, b < dB d → plK d k b = plD d b := by
  unfold alK
  rw [List.all_eq_true]
  constructor
  · intro h b hb
    have := h b (List.mem_range.mpr hb)
    simpa using this
  · intro h b hb
    have := h b (List.mem_range.mp hb)
    simpa using this
theorem plD_lt (d : Dt) (b : Nat) : plD d b < 2 ^ dn d := plS_lt _ _ _ _ _ _ _ _
theorem plK_lt (d : Dt) (k b : Nat) : plK d k b < 2 ^ dn d := plS_lt _ _ _ _ _ _ _ _
theorem c_alike_loop {d : Dt} {k : Nat} {σ : Sg} (hO : OkD d) (h1 : ∀ b, b < dB d → σ 36 b = ((plK d k b : Nat) : Int)) (h2 : ∀ b, b < dB d → σ 28 b = ((plD d b : Nat) : Int)) : ∀ (r b : Nat), b + r = dB d → (∀ j, j < b → plK d k j = plD d j) → Run 26 2 [vR 29, vI (dB d), vR 26, vI b] [] σ = some (vI (if alK d k = true then 1 else 0), σ)
  | 0, b, h, hb => by
    have hB8 := hO.1.2.2.1
    have e : b = dB d := by omega
    rw [q26_2, wr_id (x := (b : Int)) (by omega) (by omega), wr_id (x := (dB d : Int)) (by omega) (by omega), if_neg (by omega), if_pos (Or.inr rfl), if_pos (alK_iff.mpr (by rw [← e]; exact hb))]
  | r + 1, b, h, hb => by
    have hB8 := hO.1.2.2.1
    have hp := p2_7 hO.1.2.1
    have l1 := plK_lt d k b
    have l2 := plD_lt d b
    rw [q26_2, wr_id (x := (b : Int)) (by omega) (by omega), wr_id (x := (dB d : Int)) (by omega) (by omega), if_pos (show (b : Int) < (dB d : Int) by omega), if_pos (show 0 ≤ (b : Int) ∧ (b : Int) < 8 by omega), if_pos (show 0 ≤ (b : Int) ∧ (b : Int) < 8 by omega), toN, h1 b (by omega), h2 b (by omega), wr_id (x := ((plK d k b : Nat) : Int)) (by omega) (by omega), wr_id (x := ((plD d b : Nat) : Int)) (by omega) (by omega)]
    by_cases c : plK d k b = plD d b
    · rw [if_pos (by omega)]
      exact c_alike_loop hO h1 h2 r (b + 1) (by omega) (fun j hj => by
        rcases (show j < b ∨ j = b by omega) with g | g
        · exact hb j g
        · rw [g]; exact c)
    · rw [if_neg (by omega), if_pos (Or.inl rfl), if_neg (fun z => c (alK_iff.mp z b (by omega)))]
theorem most_le {f : Nat → Nat} (h : ∀ k, f k ≤ 56) : ∀ k, -1 ≤ (most f k).1 ∧ (most f k).1 ≤ 56
  | 0 => ⟨(by decide : (-1 : Int) ≤ -1), (by decide : (-1 : Int) ≤ 56)⟩
  | k + 1 => by
    have ih := most_le h k
    have := h k
    unfold most
    split
    · exact ⟨by show (-1 : Int) ≤ (f k : Int); omega, by show (f k : Int) ≤ 56; omega⟩
    · exact ih
theorem few_le {P : Nat → Bool} {f : Nat → Nat} (h : ∀ k, f k ≤ 7) : ∀ k, fewest P f k = -4 ∨ (0 ≤ fewest P f k ∧ fewest P f k ≤ 7)
  | 0 => Or.inl rfl
  | k + 1 => by
    have ih := few_le (P := P) h k
    have := h k
    unfold fewest
    split
    · split
      · exact Or.inr ⟨by omega, by omega⟩
      · exact ih
    · exact ih
