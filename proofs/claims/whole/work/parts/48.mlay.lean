/-! LAY in the reference -/
theorem m_seat_loop {D : Dt} (hR : OkR D) : ∀ (r k : Nat) (σ : Sg), k + r = D 0 0 → DrM σ (seatK D k) → ∃ σ', Run 77 2 [vR 40, vI k] [] σ = Run 77 25 [vR 40, vI 0] [] σ' ∧ DrM σ' (seatK D (D 0 0)) ∧ (∀ q, q ≠ 43 → σ' q = σ q)
  | 0, k, σ, h, hD => by
    have hn := hR.1.1
    have e : k = D 0 0 := by omega
    have e00 : seatK D k 0 0 = D 0 0 := sk_0 (by decide) k
    refine ⟨σ, ?_, by rw [← e]; exact hD, fun _ _ => rfl⟩
    rw [q77_2, wr_0, if_pos (by decide), Int.toNat_zero, hD.1.1, e00, wr_id (x := (k : Int)) (by omega) (by omega), wr_id (x := ((D 0 0 : Nat) : Int)) (by omega) (by omega), if_neg (by omega)]
  | r + 1, k, σ, h, hD => by
    have hn := hR.1.1
    have e00 : seatK D k 0 0 = D 0 0 := sk_0 (by decide) k
    have hk := sk_ok hR k (by omega)
    obtain ⟨s1, a1, a2, a3⟩ := m_sits (i := k) hk.1.1 hk.1.2.1 hk.2.2.2 hD (by rw [e00]; omega)
    obtain ⟨σ', t1, t2, t3⟩ := m_seat_loop hR r (k + 1) s1 (by omega) a2
    refine ⟨σ', ?_, t2, fun q hq => by rw [t3 q hq, a3 q hq]⟩
    rw [q77_2, wr_0, if_pos (by decide), Int.toNat_zero, hD.1.1, e00, wr_id (x := (k : Int)) (by omega) (by omega), wr_id (x := ((D 0 0 : Nat) : Int)) (by omega) (by omega), if_pos (by omega), a1, kcV_s]
    exact t1
theorem m_tell_loop : ∀ (r k : Nat) (σ : Sg), k + r = 40 → (∀ j, j < k → σ 42 j = σ 43 j) → ∃ σ', Run 77 25 [vR 40, vI k] [] σ = Run 77 51 [vR 40, vI 0] [] σ' ∧ (∀ j, j < 40 → σ' 42 j = σ 43 j) ∧ (∀ q, q ≠ 42 → σ' q = σ q)
  | 0, k, σ, h, hz => by
    have w40 : wr 40 = 40 := by decide
    refine ⟨σ, ?_, fun j hj => hz j (by omega), fun _ _ => rfl⟩
    rw [q77_25, w40, wr_id (x := (k : Int)) (by omega) (by omega), if_neg (by omega)]
  | r + 1, k, σ, h, hz => by
    have w40 : wr 40 = 40 := by decide
    obtain ⟨σ', t1, t2, t3⟩ := m_tell_loop r (k + 1) (up σ 42 k (σ 43 k)) (by omega) (fun j hj => by
      rw [up_j, up_p _ _ _ (by decide)]
      by_cases c : j = k
      · rw [if_pos c, c]
      · rw [if_neg c]; exact hz j (by omega))
    refine ⟨σ', ?_, fun j hj => by rw [t2 j hj, up_p _ _ _ (by decide)], fun q hq => by rw [t3 q hq, up_ne hq]⟩
    rw [q77_25, w40, wr_id (x := (k : Int)) (by omega) (by omega), if_pos (by omega), if_pos (by omega), if_pos (by omega), toN]
    exact t1
theorem m_sit_loop : ∀ (r k : Nat) (σ : Sg), k + r = 7 → (∀ j, j < k → σ 44 j = σ 42 (33 + j)) → ∃ σ', Run 77 51 [vR 40, vI k] [] σ = some (vI 0, up (up (up (up σ' 44 7 0) 40 6 0) 40 8 0) 40 10 0) ∧ (∀ j, j < 7 → σ' 44 j = σ 42 (33 + j)) ∧ (∀ q, q ≠ 44 → σ' q = σ q)
  | 0, k, σ, h, hz => by
    have w7 : wr 7 = 7 := by decide
    refine ⟨σ, ?_, fun j hj => hz j (by omega), fun _ _ => rfl⟩
    rw [q77_51, w7, wr_id (x := (k : Int)) (by omega) (by omega), if_neg (by omega), if_pos (by decide)]
    rfl
  | r + 1, k, σ, h, hz => by
    have w7 : wr 7 = 7 := by decide
    have e33 : 33 + (k : Int) = ((33 + k : Nat) : Int) := by omega
    obtain ⟨σ', t1, t2, t3⟩ := m_sit_loop r (k + 1) (up σ 44 k (σ 42 (33 + k))) (by omega) (fun j hj => by
      rw [up_j, up_p _ _ _ (by decide)]
      by_cases c : j = k
      · rw [if_pos c, c]
      · rw [if_neg c]; exact hz j (by omega))
    refine ⟨σ', ?_, fun j hj => by rw [t2 j hj, up_p _ _ _ (by decide)], fun q hq => by rw [t3 q hq, up_ne hq]⟩
    rw [q77_51, w7, wr_id (x := (k : Int)) (by omega) (by omega), if_pos (by omega), e33, wr_id (x := ((33 + k : Nat) : Int)) (by omega) (by omega), if_pos (by omega), if_pos (by omega), toN, toN]
    exact t1
def LaidM (σ : Sg) (D : Dt) : Prop := (σ 42 0 = ((D 0 0 : Nat) : Int) ∧ σ 42 1 = ((D 0 1 : Nat) : Int) ∧ σ 42 3 = ((D 0 2 : Nat) : Int)) ∧ (∀ i, i < D 0 0 → σ 42 (4 + i) = ((D 1 i : Nat) : Int) ∧ σ 42 (11 + i) = ((D 2 i : Nat) : Int) ∧ σ 42 (18 + i) = ((D 3 i : Nat) : Int)) ∧ (∀ b, b < D 0 1 → σ 42 (25 + b) = ((D 4 b : Nat) : Int)) ∧ (∀ s, s < D 0 0 → σ 44 s = ((seatK D (D 0 0) 5 s : Nat) : Int)) ∧ σ 44 7 = 0 ∧ σ 40 6 = 0 ∧ σ 40 8 = 0 ∧ σ 40 10 = 0
theorem m_lays {D : Dt} {σ : Sg} (hR : OkR D) (hD : DrM σ D) : ∃ σ', Cal 77 [vR 40] σ = some (vI 0, σ') ∧ LaidM σ' D ∧ (∀ q, q ≠ 40 → q ≠ 42 → q ≠ 43 → q ≠ 44 → σ' q = σ q) ∧ (∀ j, j ≠ 6 → j ≠ 8 → j ≠ 10 → σ' 40 j = σ 40 j) := by
  have hn := hR.1.1
  have hB := hR.1.2.1
  obtain ⟨s1, a1, a2, a3⟩ := m_seat_loop hR (D 0 0) 0 σ (by omega) hD
  obtain ⟨s2, b1, b2, b3⟩ := m_tell_loop 40 0 s1 (by omega) (fun j hj => by omega)
  obtain ⟨s3, c1, c2, c3⟩ := m_sit_loop 7 0 s2 (by omega) (fun j hj => by omega)
  have e0 : Cal 77 [vR 40] σ = _ := (q77_0 σ).trans (a1.trans (b1.trans c1))
  have hsk := sk_perm hR
  obtain ⟨⟨d1, d2, d3, d4⟩, d5, d6, d7⟩ := a2
  rw [sk_0 (by decide)] at d1 d2 d3 d5 d6
  rw [sk_q (by decide) (by decide), sk_q (by decide) (by decide), sk_q (by decide) (by decide)] at d5
  rw [sk_q (by decide) (by decide)] at d6
  have k42 : ∀ j, j < 40 → up (up (up (up s3 44 7 0) 40 6 0) 40 8 0) 40 10 0 42 j = s1 43 j := fun j hj => by
    rw [up_ne (by decide), up_ne (by decide), up_ne (by decide), up_ne (by decide), c3 42 (by decide)]
    exact b2 j hj
  refine ⟨_, e0, ⟨⟨?_, ?_, ?_⟩, fun i hi => ⟨?_, ?_, ?_⟩, fun b hb => ?_, fun s hs => ?_, ?_, ?_, ?_, ?_⟩, fun q q1 q2 q3 q4 => ?_, fun j j1 j2 j3 => ?_⟩
  · rw [k42 0 (by decide)]; exact d1
  · rw [k42 1 (by decide)]; exact d2
  · rw [k42 3 (by decide)]; exact d3
  · rw [k42 _ (by omega)]; exact (d5 i hi).1
  · rw [k42 _ (by omega)]; exact (d5 i hi).2.1
  · rw [k42 _ (by omega)]; exact (d5 i hi).2.2
  · rw [k42 _ (by omega)]; exact d6 b hb
  · rw [up_ne (by decide), up_ne (by decide), up_ne (by decide), up_j, if_neg (by omega), c2 s (by omega), b2 _ (by omega)]
    exact d7 s (by rw [hsk.1]; exact hs)
  · rw [up_ne (by decide), up_ne (by decide), up_ne (by decide), up_e]
  · rw [up_j, if_neg (by decide), up_j, if_neg (by decide), up_e]
  · rw [up_j, if_neg (by decide), up_e]
  · rw [up_e]
  · rw [up_ne q1, up_ne q1, up_ne q1, up_ne q4, c3 q q4, b3 q q2, a3 q q3]
  · rw [up_j, if_neg j3, up_j, if_neg j2, up_j, if_neg j1, up_p _ _ _ (by decide), c3 40 (by decide), b3 40 (by decide), a3 40 (by decide)]
theorem invM_laid {d : Dt} {σ : Sg} (hR : OkR (rdA d).2) (hL : lokB (rdA d).2 = true) (hT : TextM σ d) (h : LaidM σ (rdA d).2) : InvM σ (d_lay d) := by
  obtain ⟨⟨d1, d2, d3⟩, d5, d6, d7, d8, d9, d10, d11⟩ := h
  obtain ⟨l1, l2, l3⟩ := (lokB_iff _).mp hL
  have h1 := (miB_iff _).mp l1
  have h2 := (asB_iff _).mp l2
  unfold InvM ToldM
  rw [dl_n, dl_B, dl_g, dl_b, dl_L, dl_h, dl_u, dl_k, dl_1, dl_2, dl_3, dl_4, dl_row (q := 5) (by decide) (by decide), dl_hi (q := 6) (by decide)]
  exact ⟨⟨d1, hR.1.1, d2, hR.1.2.1, fun i hi => ⟨(d5 i hi).2.1, h1 i hi⟩, fun b hb => ⟨d6 b hb, h2 b hb⟩⟩, fun i hi => ⟨(d5 i hi).1, (d5 i hi).2.2⟩, d3, ⟨d7, d8⟩, hT, ⟨d9, fun j hj => absurd hj (Nat.not_lt_zero j)⟩, ⟨d10, fun j hj => absurd hj (Nat.not_lt_zero j)⟩, d11, fun j hj => absurd hj (Nat.not_lt_zero j)⟩
def b01 (b : Bool) : Int := if b = true then 1 else 0
theorem b01_w (b : Bool) : wr (b01 b) = 0 ↔ b = false := by
  unfold b01
  cases b
  · rw [if_neg (by decide), wr_0]
    exact ⟨fun _ => rfl, fun _ => rfl⟩
  · rw [if_pos rfl, wr_1]
    exact ⟨fun h => by omega, fun h => by cases h⟩
theorem m_l1 {D : Dt} {σ : Sg} {f0 : Bool} (hR : OkR D) (hD : DrM σ D) : ∀ (r k : Nat), k + r = D 0 0 → Run 91 26 [vR 40, vI (b01 (f0 && allB (fun i => decide (D 2 i < D 0 0)) k)), vI k] [] σ = Run 91 72 [vR 40, vI (b01 (f0 && miB D)), vI 0] [] σ
  | 0, k, h => by
    have hn := hR.1.1
    have e : k = D 0 0 := by omega
    rw [q91_26, wr_0, if_pos (show (0 : Int) ≤ 0 ∧ (0 : Int) < 40 by decide), Int.toNat_zero, hD.1.1, wr_id (x := (k : Int)) (by omega) (by omega), wr_id (x := ((D 0 0 : Nat) : Int)) (by omega) (by omega), if_neg (by omega), e]
    rfl
  | r + 1, k, h => by
    have hn := hR.1.1
    have ih := m_l1 (f0 := f0) hR hD r (k + 1) (by omega)
    have h2 := (hR.2.1 k (by omega)).2.1
    have e11 : 11 + (k : Int) = ((11 + k : Nat) : Int) := by omega
    have ea : allB (fun i => decide (D 2 i < D 0 0)) (k + 1) = (allB (fun i => decide (D 2 i < D 0 0)) k && decide (D 2 k < D 0 0)) := rfl
    rw [ea, ← Bool.and_assoc] at ih
    rw [q91_26, wr_0, if_pos (show (0 : Int) ≤ 0 ∧ (0 : Int) < 40 by decide), Int.toNat_zero, hD.1.1, wr_id (x := (k : Int)) (by omega) (by omega), wr_id (x := ((D 0 0 : Nat) : Int)) (by omega) (by omega), if_pos (show (k : Int) < ((D 0 0 : Nat) : Int) by omega), e11, wr_id (x := ((11 + k : Nat) : Int)) (by omega) (by omega), if_pos (show 0 ≤ ((11 + k : Nat) : Int) ∧ ((11 + k : Nat) : Int) < 40 by omega), if_pos (show (0 : Int) ≤ 0 ∧ (0 : Int) < 40 by decide), toN, (hD.2.1 k (by omega)).2.1, wr_id (x := ((D 2 k : Nat) : Int)) (by omega) (by omega)]
    rcases hf : (f0 && allB (fun i => decide (D 2 i < D 0 0)) k) with _ | _
    · rw [hf, Bool.false_and] at ih
      rw [if_pos ((b01_w false).mpr rfl)]
      exact ih
    · rw [hf, Bool.true_and] at ih
      rw [if_neg (fun z => by have := (b01_w true).mp z; cases this)]
      by_cases c : D 2 k < D 0 0
      · rw [decide_eq_true c] at ih
        rw [if_pos (by omega)]
        exact ih
      · rw [decide_eq_false c] at ih
        rw [if_neg (by omega)]
        exact ih
theorem m_l2 {D : Dt} {σ : Sg} {f0 : Bool} (hR : OkR D) (hD : DrM σ D) : ∀ (r k : Nat), k + r = D 0 1 → Run 91 72 [vR 40, vI (b01 (f0 && allB (fun b => decide (D 4 b < 2 ^ D 0 0)) k)), vI k] [] σ = if (f0 && asB D) = true then kcV (Cal 77 [vR 40] σ) (fun s1 => if 0 ≤ wr 0 ∧ wr 0 < 40 then some (vI (s1 42 (wr 0).toNat), s1) else none) else some (vI (-2), σ)
  | 0, k, h => by
    have hB := hR.1.2.1
    have e : k = D 0 1 := by omega
    rw [q91_72, wr_1, if_pos (show (0 : Int) ≤ 1 ∧ (1 : Int) < 40 by decide), show (1 : Int).toNat = 1 from rfl, hD.1.2.1, wr_id (x := (k : Int)) (by omega) (by omega), wr_id (x := ((D 0 1 : Nat) : Int)) (by omega) (by omega), if_neg (show ¬ (k : Int) < ((D 0 1 : Nat) : Int) by omega), e]
    show (if wr (b01 (f0 && asB D)) = 0 then _ else _) = _
    rcases hf : (f0 && asB D) with _ | _
    · rw [if_pos ((b01_w false).mpr rfl), if_neg (by decide)]
    · rw [if_neg (fun z => by have := (b01_w true).mp z; cases this), if_pos rfl]
  | r + 1, k, h => by
    have hB := hR.1.2.1
    have hn := hR.1.1
    have ih := m_l2 (f0 := f0) hR hD r (k + 1) (by omega)
    have h4 := hR.2.2.1 k (by omega)
    have hp := p2_7 hn
    have wp : wr ((2 ^ D 0 0 : Nat) : Int) = ((2 ^ D 0 0 : Nat) : Int) := by
      generalize 2 ^ D 0 0 = w at hp ⊢
      exact wr_id (by omega) (by omega)
    have e25 : 25 + (k : Int) = ((25 + k : Nat) : Int) := by omega
    have ea : allB (fun b => decide (D 4 b < 2 ^ D 0 0)) (k + 1) = (allB (fun b => decide (D 4 b < 2 ^ D 0 0)) k && decide (D 4 k < 2 ^ D 0 0)) := rfl
    rw [ea, ← Bool.and_assoc] at ih
    rw [q91_72, wr_1, if_pos (show (0 : Int) ≤ 1 ∧ (1 : Int) < 40 by decide), show (1 : Int).toNat = 1 from rfl, hD.1.2.1, wr_id (x := (k : Int)) (by omega) (by omega), wr_id (x := ((D 0 1 : Nat) : Int)) (by omega) (by omega), if_pos (show (k : Int) < ((D 0 1 : Nat) : Int) by omega), e25, wr_id (x := ((25 + k : Nat) : Int)) (by omega) (by omega), if_pos (show 0 ≤ ((25 + k : Nat) : Int) ∧ ((25 + k : Nat) : Int) < 40 by omega), wr_0, if_pos (show (0 : Int) ≤ 0 ∧ (0 : Int) < 40 by decide), toN, hD.2.2.1 k (by omega), Int.toNat_zero, hD.1.1, bsl1_n (D 0 0) (by omega), wr_id (x := ((D 4 k : Nat) : Int)) (by omega) (by omega), wp]
    rcases hf : (f0 && allB (fun b => decide (D 4 b < 2 ^ D 0 0)) k) with _ | _
    · rw [hf, Bool.false_and] at ih
      rw [if_pos ((b01_w false).mpr rfl)]
      exact ih
    · rw [hf, Bool.true_and] at ih
      rw [if_neg (fun z => by have := (b01_w true).mp z; cases this)]
      by_cases c : D 4 k < 2 ^ D 0 0
      · rw [decide_eq_true c] at ih
        rw [if_pos (Int.ofNat_lt.mpr c)]
        exact ih
      · rw [decide_eq_false c] at ih
        rw [if_neg (fun z => c (Int.ofNat_lt.mp z))]
        exact ih
theorem m_lay {d : Dt} {σ : Sg} (hO : OkD d) (hM : InvM σ d) : ∃ σ', Cal 91 [vR 40] σ = some (vI (r_lay d), σ') ∧ InvM σ' (d_lay1 d) ∧ FrM σ σ' := by
  have w4 : wr (-4) = -4 := by decide
  have e0 : Cal 91 [vR 40] σ = _ := q91_0 σ
  obtain ⟨s1, a1, a2, a3, a4⟩ := m_reads hO hM.tx
  have hL := hO.1.2.2.2.2.2.1
  have hn := a4.1.1
  have lr : -2147483648 ≤ (rdA d).1 ∧ (rdA d).1 < 2147483648 := by
    have : ∀ (r p : Nat) (D : Dt), (rdAll d r p D).1 = -4 ∨ (0 ≤ (rdAll d r p D).1 ∧ (rdAll d r p D).1 ≤ 200) := by
      intro r
      induction r with
      | zero => exact fun p D => Or.inl rfl
      | succ r ih =>
        intro p D
        by_cases hp : p < dL d
        · rcases hr : rdIt d p D with _ | eD
          · rw [rdAll_n hp hr]
            refine Or.inr ⟨?_, ?_⟩
            · show (0 : Int) ≤ (p : Int)
              omega
            · show (p : Int) ≤ 200
              omega
          · rw [rdAll_s hp hr]
            exact ih _ _
        · rw [rdAll_e (by omega)]
          exact Or.inl rfl
    rcases this 200 0 D0 with g | g
    · unfold rdA
      omega
    · unfold rdA
      omega
  rw [a1, kcI_s, w4, wr_id (x := (rdA d).1) lr.1 lr.2, wr_0, if_pos (show (0 : Int) ≤ 0 ∧ (0 : Int) < 40 by decide), Int.toNat_zero, a3.1.1, wr_id (x := (((rdA d).2 0 0 : Nat) : Int)) (by omega) (by omega)] at e0
  have key : ∀ f0 : Bool, Run 91 26 [vR 40, vI (b01 f0), vI 0] [] s1 = if (f0 && miB (rdA d).2 && asB (rdA d).2) = true then kcV (Cal 77 [vR 40] s1) (fun s1 => if 0 ≤ wr 0 ∧ wr 0 < 40 then some (vI (s1 42 (wr 0).toNat), s1) else none) else some (vI (-2), s1) := fun f0 => by
    have h1 := m_l1 (f0 := f0) a4 a3 ((rdA d).2 0 0) 0 (by omega)
    have h2 := m_l2 (f0 := f0 && miB (rdA d).2) a4 a3 ((rdA d).2 0 1) 0 (by omega)
    rw [show allB (fun i => decide ((rdA d).2 2 i < (rdA d).2 0 0)) 0 = true from rfl, Bool.and_true] at h1
    rw [show allB (fun b => decide ((rdA d).2 4 b < 2 ^ (rdA d).2 0 0)) 0 = true from rfl, Bool.and_true] at h2
    exact h1.trans h2
  have fin0 : Run 91 26 [vR 40, vI 0, vI 0] [] s1 = some (vI (-2), s1) := by
    have := key false
    rw [Bool.false_and, Bool.false_and, if_neg (by decide)] at this
    exact this
  have fin1 := key true
  rw [Bool.true_and] at fin1
  have fin1 : Run 91 26 [vR 40, vI 1, vI 0] [] s1 = _ := fin1
  unfold r_lay d_lay1
  by_cases c1 : (rdA d).1 = -4
  · rw [if_pos c1] at e0
    by_cases c2 : 0 < (rdA d).2 0 0
    · rw [if_pos (by omega), fin1] at e0
      by_cases c3 : (miB (rdA d).2 && asB (rdA d).2) = true
      · have c4 := c3
        rw [Bool.and_eq_true] at c4
        have hLk : lokB (rdA d).2 = true := (lokB_iff _).mpr ⟨c4.1, c4.2, c2⟩
        obtain ⟨s2, b1, b2, b3, b4⟩ := m_lays a4 a3
        rw [if_pos c3, b1, kcV_s, wr_0, if_pos (show (0 : Int) ≤ 0 ∧ (0 : Int) < 40 by decide), Int.toNat_zero, b2.1.1] at e0
        rw [if_pos ⟨c1, hLk⟩, if_pos ⟨c1, hLk⟩]
        have hT1 := hM.tx.km a2
        have hT2 : TextM s2 d := ⟨by rw [b4 1 (by decide) (by decide) (by decide)]; exact hT1.1, fun j hj => by rw [b3 41 (by decide) (by decide) (by decide) (by decide)]; exact hT1.2 j hj⟩
        exact ⟨s2, e0, invM_laid a4 hLk hT2 b2, fun q hq => by rw [b3 q (by omega) (by omega) (by omega) (by omega), a2.1 q (by omega) (by omega)]⟩
      · rw [if_neg c3] at e0
        have hLk : ¬ lokB (rdA d).2 = true := fun z => c3 (by
          have := (lokB_iff _).mp z
          rw [Bool.and_eq_true]
          exact ⟨this.1, this.2.1⟩)
        rw [if_neg (fun z => hLk z.2), if_neg (fun z => hLk z.2)]
        exact ⟨s1, e0, hM.km a2, fun q hq => a2.1 q (by omega) (by omega)⟩
    · rw [if_neg (by omega), fin0] at e0
      have hLk : ¬ lokB (rdA d).2 = true := fun z => c2 ((lokB_iff _).mp z).2.2
      rw [if_neg (fun z => hLk z.2), if_neg (fun z => hLk z.2)]
      exact ⟨s1, e0, hM.km a2, fun q hq => a2.1 q (by omega) (by omega)⟩
  · rw [if_neg c1, fin0] at e0
    rw [if_neg (fun z => c1 z.1), if_neg (fun z => c1 z.1)]
    exact ⟨s1, e0, hM.km a2, fun q hq => a2.1 q (by omega) (by omega)⟩
