/-! LAY: the class, the reference -/
theorem c_copy {D : Dt} {σ : Sg} (hR : OkR D) (hD : DrC σ D) : ∃ σ', Cal 1 [vR 20, vR 14] σ = some (vI 0, σ') ∧ (∀ q, q < 20 ∨ 25 < q → σ' q = σ q) ∧ (σ' 20 3 = ((D 0 0 : Nat) : Int) ∧ σ' 20 5 = ((D 0 1 : Nat) : Int) ∧ σ' 20 8 = ((D 0 2 : Nat) : Int) ∧ σ' 20 7 = ((D 0 3 : Nat) : Int)) ∧ (∀ i, i < D 0 0 → σ' 21 i = ((D 1 i : Nat) : Int) ∧ σ' 22 i = ((D 2 i : Nat) : Int) ∧ σ' 23 i = ((D 3 i : Nat) : Int)) ∧ (∀ b, b < D 0 1 → σ' 24 b = ((D 4 b : Nat) : Int)) ∧ (∀ s, s < D 0 3 → σ' 25 s = ((D 5 s : Nat) : Int)) := by
  have hn := hR.1.1
  have hB := hR.1.2.1
  have hm7 : D 0 3 ≤ 7 := by have := hR.2.2.2.2.2; omega
  have w7 : wr 7 = 7 := by decide
  have w8 : wr 8 = 8 := by decide
  have e0 : Cal 1 [vR 20, vR 14] σ = _ := q1_0 σ
  rw [wr_0, w7, w8, show (7 : Int).toNat = 7 from rfl, show (8 : Int).toNat = 8 from rfl, Int.toNat_zero, if_pos (by decide), if_pos (by decide), if_pos (by decide), if_pos (by decide), if_pos (by decide)] at e0
  obtain ⟨X, hX⟩ : ∃ X, X = cpy (cpy (cpy (cpy (cpy σ 15 0 21 0 7) 16 0 22 0 7) 17 0 23 0 7) 18 0 24 0 8) 19 0 25 0 7 := ⟨_, rfl⟩
  rw [← hX] at e0
  have kX : ∀ q, q < 21 ∨ 25 < q → X q = σ q := fun q hq => by rw [hX, cpy_ne (by omega), cpy_ne (by omega), cpy_ne (by omega), cpy_ne (by omega), cpy_ne (by omega)]
  have u20 : ∀ (τ : Sg) (i : Nat) (x : Int) (j : Nat), up τ 20 i x 14 j = τ 14 j := fun _ _ _ _ => up_p _ _ _ (by decide)
  simp only [u20] at e0
  obtain ⟨⟨d1, d2, d3, d4⟩, d5, d6, d7⟩ := hD
  rw [kX 14 (by decide), d1, d2, d3, d4] at e0
  refine ⟨_, e0, fun q hq => ?_, ⟨?_, ?_, ?_, ?_⟩, fun i hi => ⟨?_, ?_, ?_⟩, fun b hb => ?_, fun s hs => ?_⟩
  · rw [up_ne (by omega), up_ne (by omega), up_ne (by omega), up_ne (by omega), kX q (by omega)]
  · rw [up_j, if_neg (by decide), up_j, if_neg (by decide), up_j, if_neg (by decide), up_e]
  · rw [up_j, if_neg (by decide), up_j, if_neg (by decide), up_e]
  · rw [up_e]
  · rw [up_j, if_neg (by decide), up_e]
  · rw [up_ne (by decide), up_ne (by decide), up_ne (by decide), up_ne (by decide), hX, cpy_ne (by decide), cpy_ne (by decide), cpy_ne (by decide), cpy_ne (by decide)]
    unfold cpy
    rw [if_pos (by omega), Nat.zero_add, Nat.sub_zero]
    exact (d5 i hi).1
  · rw [up_ne (by decide), up_ne (by decide), up_ne (by decide), up_ne (by decide), hX, cpy_ne (by decide), cpy_ne (by decide), cpy_ne (by decide)]
    have : cpy (cpy σ 15 0 21 0 7) 16 0 22 0 7 22 i = cpy σ 15 0 21 0 7 16 (0 + (i - 0)) := if_pos (by omega)
    rw [this, cpy_ne (by decide), Nat.zero_add, Nat.sub_zero]
    exact (d5 i hi).2.1
  · rw [up_ne (by decide), up_ne (by decide), up_ne (by decide), up_ne (by decide), hX, cpy_ne (by decide), cpy_ne (by decide)]
    have : cpy (cpy (cpy σ 15 0 21 0 7) 16 0 22 0 7) 17 0 23 0 7 23 i = cpy (cpy σ 15 0 21 0 7) 16 0 22 0 7 17 (0 + (i - 0)) := if_pos (by omega)
    rw [this, cpy_ne (by decide), cpy_ne (by decide), Nat.zero_add, Nat.sub_zero]
    exact (d5 i hi).2.2
  · rw [up_ne (by decide), up_ne (by decide), up_ne (by decide), up_ne (by decide), hX, cpy_ne (by decide)]
    have : cpy (cpy (cpy (cpy σ 15 0 21 0 7) 16 0 22 0 7) 17 0 23 0 7) 18 0 24 0 8 24 b = cpy (cpy (cpy σ 15 0 21 0 7) 16 0 22 0 7) 17 0 23 0 7 18 (0 + (b - 0)) := if_pos (by omega)
    rw [this, cpy_ne (by decide), cpy_ne (by decide), cpy_ne (by decide), Nat.zero_add, Nat.sub_zero]
    exact d6 b hb
  · rw [up_ne (by decide), up_ne (by decide), up_ne (by decide), up_ne (by decide), hX]
    have : cpy (cpy (cpy (cpy (cpy σ 15 0 21 0 7) 16 0 22 0 7) 17 0 23 0 7) 18 0 24 0 8) 19 0 25 0 7 25 s = cpy (cpy (cpy (cpy σ 15 0 21 0 7) 16 0 22 0 7) 17 0 23 0 7) 18 0 24 0 8 19 (0 + (s - 0)) := if_pos (by omega)
    rw [this, cpy_ne (by decide), cpy_ne (by decide), cpy_ne (by decide), cpy_ne (by decide), Nat.zero_add, Nat.sub_zero]
    exact d7 s hs
theorem c_seatAll {D : Dt} {σ : Sg} (hR : OkR D) (h20 : σ 20 3 = ((D 0 0 : Nat) : Int)) (hm : σ 20 7 = ((D 0 3 : Nat) : Int)) (hs : ∀ s, s < D 0 3 → σ 25 s = ((D 5 s : Nat) : Int)) : ∃ σ', Cal 8 [vR 20, vR 1] σ = some (vI 0, σ') ∧ (∀ q, q ≠ 1 → σ' q = σ q) ∧ Rep σ' 1 (D 0 0) (seatK D (D 0 0) 5) := by
  have hn := hR.1.1
  have hS := hR.2.2.2
  have hm7 : D 0 3 ≤ 7 := by have := hS.2.2; omega
  have w7 : wr 7 = 7 := by decide
  have e0 : Cal 8 [vR 20, vR 1] σ = _ := q8_0 σ
  have et : Cal 4 [vR 20] σ = some (vI ((tsM (D 5) (D 0 3) : Nat) : Int), σ) := (q4_0 20 σ (Or.inr rfl)).trans (c_told (f := D 5) (Or.inr rfl) hm hm7 (fun s h => ⟨hs s h, by have := hS.1 s h; omega⟩) (D 0 3) 0 (by omega))
  rw [et, kcI_s, wr_0, w7, if_pos (by decide), hm, Int.toNat_zero, show (7 : Int).toNat = 7 from rfl] at e0
  obtain ⟨σ', t1, t2, t3⟩ := c_seat_loop hR (D 0 0) 0 (cpy σ 25 0 1 0 7) (by omega) (by rw [cpy_ne (by decide)]; exact h20) (fun s h => by
    have h2 : s < D 0 3 := h
    have : cpy σ 25 0 1 0 7 1 s = σ 25 (0 + (s - 0)) := if_pos (by omega)
    rw [this, Nat.zero_add, Nat.sub_zero]
    exact hs s h2)
  refine ⟨σ', e0.trans t1, fun q hq => by rw [t2 q hq, cpy_ne hq], ?_⟩
  intro s h
  exact t3 s (by rw [(sk_perm hR).1]; exact h)
theorem c_layText {d : Dt} {σ : Sg} (hO : OkD d) (hT : TextI σ d) : ((rdA d).1 = -4 ∧ lokB (rdA d).2 = true → ∃ σ', Cal 31 [vR 0] σ = some (vI 1, σ') ∧ InvC σ' (d_lay d) ∧ FrC σ σ' ∧ OkD (d_lay d)) ∧ (¬ ((rdA d).1 = -4 ∧ lokB (rdA d).2 = true) → ∃ σ', Cal 31 [vR 0] σ = some (vI 0, σ') ∧ FrT σ σ') := by
  have w4 : wr (-4) = -4 := by decide
  have e0 : Cal 31 [vR 0] σ = _ := q31_0 σ
  obtain ⟨s1, a1, a2, a3⟩ := c_readAll hO hT
  have hL := hO.1.2.2.2.2.2.1
  have lr : -2147483648 ≤ (rdA d).1 ∧ (rdA d).1 < 2147483648 := by
    have : ∀ (r p : Nat) (D : Dt), (rdAll d r p D).1 = -4 ∨ (0 ≤ (rdAll d r p D).1 ∧ (rdAll d r p D).1 ≤ 200) := by
      intro r
      induction r with
      | zero => exact fun p D => Or.inl rfl
      | succ r ih =>
        intro p D
        by_cases hp : p < dL d
        · rcases hr : rdIt d p D with _ | eD
          · rw [rdAll_n hp hr]
            refine Or.inr ⟨?_, ?_⟩
            · show (0 : Int) ≤ (p : Int)
              omega
            · show (p : Int) ≤ 200
              omega
          · rw [rdAll_s hp hr]
            exact ih _ _
        · rw [rdAll_e (by omega)]
          exact Or.inl rfl
    rcases this 200 0 D0 with g | g
    · unfold rdA
      omega
    · unfold rdA
      omega
  rw [a1, kcI_s, w4, wr_id (x := (rdA d).1) lr.1 lr.2] at e0
  by_cases c1 : (rdA d).1 = -4
  · obtain ⟨hD, hR⟩ := a3 c1
    rw [if_pos c1, c_names hR hD, kcI_s] at e0
    by_cases c2 : lokB (rdA d).2 = true
    · refine ⟨fun _ => ?_, fun h => absurd ⟨c1, c2⟩ h⟩
      have hO2 := ok_lay hO hR c2
      obtain ⟨l1, l2, l3⟩ := (lokB_iff _).mp c2
      have h1 := (miB_iff _).mp l1
      have h2 := (asB_iff _).mp l2
      obtain ⟨s2, b1, b2, ⟨b3, b4, b5, b6⟩, b7, b8, b9⟩ := c_copy hR hD
      obtain ⟨s3, f1, f2, f3⟩ := c_seatAll hR b3 b6 b9
      obtain ⟨X, hX⟩ : ∃ X, X = up (up (up (up s3 0 3 0) 0 13 0) 0 9 0) 0 16 0 := ⟨_, rfl⟩
      have kX : ∀ q, q ≠ 0 → X q = s3 q := fun q hq => by rw [hX, up_ne hq, up_ne hq, up_ne hq, up_ne hq]
      have hB : BandI X (d_lay d) := by
        refine ⟨⟨?_, hR.1.1, ?_, hR.1.2.1, fun i hi => ?_, fun i hi => ?_, fun b hb => ?_⟩, fun i hi => ?_, ?_⟩
        · rw [kX 20 (by decide), f2 20 (by decide), b3]; rfl
        · rw [kX 20 (by decide), f2 20 (by decide), b4]; rfl
        · rw [kX 21 (by decide), f2 21 (by decide), dl_1]; exact ⟨(b7 i hi).1, (hR.2.1 i hi).1⟩
        · rw [kX 22 (by decide), f2 22 (by decide), dl_2]; exact ⟨(b7 i hi).2.1, h1 i hi⟩
        · rw [kX 24 (by decide), f2 24 (by decide), dl_4]; exact ⟨b8 b hb, h2 b hb⟩
        · rw [kX 23 (by decide), f2 23 (by decide), dl_3]; exact (b7 i hi).2.2
        · rw [kX 20 (by decide), f2 20 (by decide), b5]; rfl
      have hS : SeatI X (d_lay d) := by
        refine ⟨?_, ?_⟩
        · rw [dl_row (q := 5) (by decide) (by decide)]
          exact f3.kept (kX 1 (by decide))
        · rw [hX, up_j, if_neg (by decide), up_j, if_neg (by decide), up_j, if_neg (by decide), up_e]; rfl
      obtain ⟨s4, g1, g2, g3, g4⟩ := c_settle hO2 hB hS
      rw [if_pos c2, wr_1, if_neg (show ¬ (1 : Int) = 0 by decide), b1, kcV_s, f1, kcV_s, ← hX, g1, kcV_s, if_pos (Or.inr rfl)] at e0
      have k4 : ∀ q, q ≠ 26 → q ≠ 27 → q ≠ 28 → q ≠ 29 → s4 q = X q := g2
      have k0 : s4 0 = X 0 := g2 0 (by decide) (by decide) (by decide) (by decide)
      refine ⟨s4, e0, ⟨hB.kept (g2 _ (by decide) (by decide) (by decide) (by decide)) (g2 _ (by decide) (by decide) (by decide) (by decide)) (g2 _ (by decide) (by decide) (by decide) (by decide)) (g2 _ (by decide) (by decide) (by decide) (by decide)) (g2 _ (by decide) (by decide) (by decide) (by decide)), hS.kept (g2 _ (by decide) (by decide) (by decide) (by decide)) (by rw [k0]), g3, ?_, ⟨?_, fun j hj => absurd hj (Nat.not_lt_zero j)⟩, ⟨?_, Nat.zero_le _, fun j hj => absurd hj (Nat.not_lt_zero j)⟩, ⟨?_, fun j hj => absurd hj (Nat.not_lt_zero j)⟩, g4⟩, fun q hq => ?_, hO2⟩
      · have e11 : s4 11 = σ 11 := by rw [g2 11 (by decide) (by decide) (by decide) (by decide), kX 11 (by decide), f2 11 (by decide), b2 11 (by decide), a2 11 (by decide)]
        have e12 : s4 12 = σ 12 := by rw [g2 12 (by decide) (by decide) (by decide) (by decide), kX 12 (by decide), f2 12 (by decide), b2 12 (by decide), a2 12 (by decide)]
        refine ⟨?_, fun j hj => ?_⟩
        · rw [e11, dl_L]; exact hT.1
        · rw [e12, dl_hi (q := 6) (by decide)]; exact hT.2 j hj
      · rw [k0, hX, up_j, if_neg (by decide), up_j, if_neg (by decide), up_e]; rfl
      · rw [k0, hX, up_e]; rfl
      · rw [k0, hX, up_j, if_neg (by decide), up_e]; rfl
      · rw [g2 q (by omega) (by omega) (by omega) (by omega), kX q (by omega), f2 q (by omega), b2 q (by omega), a2 q (by omega)]
    · rw [if_neg c2, wr_0, if_pos rfl, if_pos (Or.inl rfl)] at e0
      exact ⟨fun h => absurd h.2 c2, fun _ => ⟨s1, e0, a2⟩⟩
  · rw [if_neg c1, if_pos (Or.inl rfl)] at e0
    exact ⟨fun h => absurd h.1 c1, fun _ => ⟨s1, e0, a2⟩⟩
theorem c_lay {d : Dt} {σ : Sg} (hO : OkD d) (hI : InvC σ d) : ∃ σ', Cal 36 [vR 0] σ = some (vI (r_lay d), σ') ∧ InvC σ' (d_lay1 d) ∧ FrC σ σ' ∧ OkD (d_lay1 d) := by
  have e0 : Cal 36 [vR 0] σ = _ := q36_0 σ
  obtain ⟨h1, h2⟩ := c_layText hO hI.2.2.2.1
  unfold r_lay d_lay1
  by_cases c : (rdA d).1 = -4 ∧ lokB (rdA d).2 = true
  · obtain ⟨s1, a1, a2, a3, a4⟩ := h1 c
    rw [a1, kcI_s, wr_1, if_neg (by decide), a2.1.1.1] at e0
    rw [if_pos c, if_pos c]
    exact ⟨s1, e0, a2, a3, a4⟩
  · obtain ⟨s1, a1, a2⟩ := h2 c
    rw [a1, kcI_s, wr_0, if_pos rfl] at e0
    rw [if_neg c, if_neg c]
    exact ⟨s1, e0, hI.tx a2, fun q hq => a2 q (by omega), hO⟩
