/-! bribe, undo, keep, back, in the reference -/
theorem m_cost_loop {d : Dt} {σ : Sg} {s : Nat} (hn : dn d ≤ 7) (h0 : σ 42 0 = ((dn d : Nat) : Int)) (h18 : ∀ i, i < dn d → σ 42 (18 + i) = ((d 3 i : Nat) : Int)) (hs : s < 2147483648) : ∀ (r k : Nat), k + r = dn d → Run 106 4 [vR 40, vI s, vI ((prS d s k : Nat) : Int), vI k] [] σ = some (vI ((prS d s (dn d) : Nat) : Int), σ)
  | 0, k, h => by
    have hk : k = dn d := by omega
    rw [q106_4, wr_0, if_pos (by omega), Int.toNat_zero, h0, if_neg (by rw [wr_id (by omega) (by omega), wr_id (by omega) (by omega)]; omega), hk]
  | r + 1, k, h => by
    have ih := m_cost_loop hn h0 h18 hs r (k + 1) (by omega)
    have e18 : (18 + (k : Int)) = ((18 + k : Nat) : Int) := by omega
    rw [q106_4, wr_0, if_pos (by omega), Int.toNat_zero, h0, wr_id (x := (k : Int)) (by omega) (by omega), wr_id (x := (dn d : Int)) (by omega) (by omega), if_pos (by omega), bit_n s k hs (by omega), e18, wr_id (x := ((18 + k : Nat) : Int)) (by omega) (by omega), if_pos (c := 0 ≤ ((18 + k : Nat) : Int) ∧ ((18 + k : Nat) : Int) < 40) (by omega), toN, h18 k (by omega)]
    by_cases c : s.testBit k = true
    · have e : ((prS d s k : Nat) : Int) + ((d 3 k : Nat) : Int) = ((prS d s (k + 1) : Nat) : Int) := by
        show _ = (((prS d s k + _ : Nat)) : Int)
        rw [if_pos c]
        omega
      rw [if_pos c, wr_1, if_pos rfl, e]
      exact ih
    · have e : ((prS d s k : Nat) : Int) + 0 = ((prS d s (k + 1) : Nat) : Int) := by
        show _ = (((prS d s k + _ : Nat)) : Int)
        rw [if_neg c]
        omega
      rw [if_neg c, wr_1, wr_0, if_neg (by decide), e]
      exact ih
theorem m_cost {d : Dt} {σ : Sg} {s : Nat} (hn : dn d ≤ 7) (h0 : σ 42 0 = ((dn d : Nat) : Int)) (h18 : ∀ i, i < dn d → σ 42 (18 + i) = ((d 3 i : Nat) : Int)) (hs : s < 2147483648) : Cal 106 [vR 40, vI s] σ = some (vI ((prS d s (dn d) : Nat) : Int), σ) := (q106_0 _ σ).trans (m_cost_loop hn h0 h18 hs (dn d) 0 (by omega))
theorem m_bribe {d : Dt} {σ : Sg} {a : Nat} (hO : OkD d) (hM : InvM σ d) (ha : a < dn d) : ∃ σ', Cal 107 [vR 40, vI a] σ = some (vI ((prS d (db d ^^^ 2 ^ a) (dn d) : Nat) : Int), σ') ∧ InvM σ' (d_bribe1 d a) ∧ FrM σ σ' := by
  have hn := hO.1.2.1
  have hp7 := p2_7 hn
  have hb := hO.1.2.2.2.2.1
  have e0 : Cal 107 [vR 40, vI a] σ = _ := q107_0 a σ
  have hxa : InR (a : Int) := ⟨by omega, by omega⟩
  have l2 := p2_lt ha
  have w7 : wr 7 = 7 := by decide
  have lx : db d ^^^ 2 ^ a < 2 ^ dn d := Nat.xor_lt_two_pow hb l2
  obtain ⟨s1, r1, r2, r3, r4⟩ := m_keeps hO hM
  have h7 : s1 44 7 = ((db d : Nat) : Int) := by rw [r2 44 (by decide) (by decide)]; exact hM.2.2.2.1.2
  rw [isI_m hM hxa, kcI_s, if_pos (by omega : 0 ≤ (a : Int) ∧ (a : Int) < (dn d : Int)), wr_1, if_neg (by decide), r1, kcV_s, w7, if_pos (by decide), if_pos (by decide), if_pos (by decide), show (7 : Int).toNat = 7 from rfl, h7, bsl1_n a (by omega), bxo_n _ _ (by omega) (by omega), up_e] at e0
  obtain ⟨X, hX⟩ : ∃ X, X = up s1 44 7 ((db d ^^^ 2 ^ a : Nat) : Int) := ⟨_, rfl⟩
  rw [← hX] at e0
  have kX : ∀ q, q ≠ 44 → X q = s1 q := fun q hq => by rw [hX, up_ne hq]
  have en : dn (d_bribe1 d a) = dn d := (stp_push d _ _).1
  have e5 : d_bribe1 d a 5 = d 5 := setS_5
  have eb : db (d_bribe1 d a) = db d ^^^ 2 ^ a := setS_b
  have k42 : X 42 = σ 42 := by rw [kX 42 (by decide), r2 42 (by decide) (by decide)]
  rw [m_cost (d := d) hn (by rw [k42]; exact hM.1.1) (fun i hi => by rw [k42]; exact (hM.2.1 i hi).2) (by omega), kcI_s] at e0
  refine ⟨X, e0, ?_, fun q hq => by rw [kX q (by omega), r2 q (by omega) (by omega)]⟩
  refine inv_mstep hM (stp_push d _ _) (fun q q0 q4 q5 _ => by rw [kX q q4, r2 q q0 q5]) (by rw [kX 40 (by decide), r3 1 (by decide)]) (by rw [kX 40 (by decide), r3 10 (by decide)]) ⟨?_, ?_⟩ (past_set r4 (by rw [kX 40 (by decide)]) (kX 45 (by decide))) (imgs_push hM (by rw [kX 40 (by decide), r3 8 (by decide)]) (by rw [kX 46 (by decide), r2 46 (by decide) (by decide)]))
  · show ∀ i, i < dn (d_bribe1 d a) → X 44 i = ((d_bribe1 d a 5 i : Nat) : Int)
    rw [en, e5]
    intro i hi
    rw [hX, up_j, if_neg (by omega), r2 44 (by decide) (by decide)]
    exact hM.2.2.2.1.1 i hi
  · show X 44 7 = ((db (d_bribe1 d a) : Nat) : Int)
    rw [eb, hX, up_e]
-- undo
theorem mu_loop {u : Nat} (hu : u < 8) : ∀ (r k : Nat) (σ : Sg), k + r = 8 → σ 40 6 = (u : Int) → ∃ σ', Run 108 22 [vR 40, vI k] [] σ = some (vI (u : Int), σ') ∧ (∀ q, q ≠ 44 → σ' q = σ q) ∧ (∀ i, k ≤ i → i < 8 → σ' 44 i = σ 45 (8 * u + i)) ∧ (∀ i, i < k → σ' 44 i = σ 44 i)
  | 0, k, σ, h, h6 => by
    have w8 : wr 8 = 8 := by decide
    refine ⟨σ, ?_, fun _ _ => rfl, fun i h1 h2 => by omega, fun _ _ => rfl⟩
    rw [q108_22, w8, wr_id (by omega) (by omega), if_neg (by omega), h6]
  | r + 1, k, σ, h, h6 => by
    have w8 : wr 8 = 8 := by decide
    obtain ⟨σ', r1, r2, r3, r4⟩ := mu_loop hu r (k + 1) (up σ 44 k (σ 45 (8 * u + k))) (by omega) (by rw [up_p _ _ _ (by decide)]; exact h6)
    refine ⟨σ', ?_, fun q hq => (r2 q hq).trans (up_ne hq), fun i h1 h2 => ?_, fun i hi => ?_⟩
    · rw [q108_22, w8, h6, show (8 * (u : Int) + (k : Int)) = ((8 * u + k : Nat) : Int) by omega, wr_id (x := (k : Int)) (by omega) (by omega), wr_id (x := ((8 * u + k : Nat) : Int)) (by omega) (by omega), if_pos (by omega), if_pos (by omega), if_pos (by omega), toN, toN]
      exact r1
    · rcases Nat.eq_or_lt_of_le h1 with q | q
      · subst q
        rw [r4 _ (by omega), up_e]
      · rw [r3 i q h2, up_p _ _ _ (by decide)]
    · rw [r4 i (by omega), up_j, if_neg (by omega)]
theorem m_undo {d : Dt} {σ : Sg} (hO : OkD d) (hM : InvM σ d) (hu : 0 < du d) : ∃ σ', Cal 108 [vR 40] σ = some (vI ((du d - 1 : Nat) : Int), σ') ∧ InvM σ' (d_undo1 d) ∧ FrM σ σ' := by
  have hn := hO.1.2.1
  have hu8 := hO.1.2.2.2.2.2.2.2.1
  have e0 : Cal 108 [vR 40] σ = _ := q108_0 σ
  have m6 := hM.2.2.2.2.2.1
  have m7 := hM.2.2.2.2.2.2.1
  rw [m6.1, wr_id (x := (du d : Int)) (by omega) (by omega), if_neg (by omega), show (((du d : Nat) : Int) - 1) = ((du d - 1 : Nat) : Int) by omega] at e0
  obtain ⟨σ', r1, r2, r3, r4⟩ := mu_loop (u := du d - 1) (by omega) 8 0 (up σ 40 6 ((du d - 1 : Nat) : Int)) (by omega) (up_e _ _ _ _)
  have en : dn (d_undo1 d) = dn d := (stp_undo d).1
  have p1 := m6.2 (du d - 1) (by omega)
  have v : ∀ i, i < 8 → σ' 44 i = σ 45 (8 * (du d - 1) + i) := fun i hi => by rw [r3 i (Nat.zero_le _) hi, up_p _ _ _ (by decide)]
  have k0 : ∀ j, j ≠ 6 → σ' 40 j = σ 40 j := fun j hj => by rw [r2 40 (by decide), up_j, if_neg hj]
  refine ⟨σ', e0.trans r1, ?_, fun q hq => by rw [r2 q (by omega), up_ne (by omega)]⟩
  refine inv_mstep hM (stp_undo d) (fun q q0 q4 _ _ => by rw [r2 q q4, up_ne q0]) (k0 1 (by decide)) (k0 10 (by decide)) ⟨fun i hi => ?_, ?_⟩ ⟨?_, fun j hj => ?_⟩ ⟨?_, fun j hj => ?_⟩
  · rw [en] at hi
    rw [und_5, v i (by omega)]
    exact p1.1 i hi
  · rw [und_b, v 7 (by decide)]
    exact p1.2
  · rw [r2 40 (by decide), up_e, und_u]
  · rw [und_u] at hj
    rw [en, r2 45 (by decide), up_ne (by decide), und_row (by omega) (by omega)]
    exact m6.2 j (by omega)
  · rw [k0 8 (by decide), show dk (d_undo1 d) = dk d from und_0 (by decide) (by decide)]
    exact m7.1
  · rw [show dk (d_undo1 d) = dk d from und_0 (by decide) (by decide)] at hj
    rw [en, r2 46 (by decide), up_ne (by decide), und_row (by omega) (by omega)]
    exact m7.2 j hj
theorem m_undo0 {d : Dt} {σ : Sg} (hM : InvM σ d) (hu : du d = 0) : Cal 108 [vR 40] σ = some (vI (-2), σ) := by
  have e0 : Cal 108 [vR 40] σ = _ := q108_0 σ
  rw [hM.2.2.2.2.2.1.1, hu, if_pos (by decide)] at e0
  exact e0
-- keep
theorem mk_loop {u : Nat} (hu : u < 2) : ∀ (r k : Nat) (σ : Sg), k + r = 8 → σ 40 8 = (u : Int) → ∃ σ', Run 128 13 [vR 40, vI k] [] σ = some (vI ((u : Int) + 1), up σ' 40 8 ((u : Int) + 1)) ∧ (∀ q, q ≠ 46 → σ' q = σ q) ∧ (∀ i, k ≤ i → i < 8 → σ' 46 (8 * u + i) = σ 44 i) ∧ (∀ i, (i < 8 * u + k ∨ 8 * u + 8 ≤ i) → σ' 46 i = σ 46 i)
  | 0, k, σ, h, h6 => by
    have w8 : wr 8 = 8 := by decide
    refine ⟨σ, ?_, fun _ _ => rfl, fun i h1 h2 => by omega, fun _ _ => rfl⟩
    rw [q128_13, w8, wr_id (by omega) (by omega), if_neg (by omega), up_e, h6]
  | r + 1, k, σ, h, h6 => by
    have w8 : wr 8 = 8 := by decide
    obtain ⟨σ', r1, r2, r3, r4⟩ := mk_loop hu r (k + 1) (up σ 46 (8 * u + k) (σ 44 k)) (by omega) (by rw [up_p _ _ _ (by decide)]; exact h6)
    refine ⟨σ', ?_, fun q hq => (r2 q hq).trans (up_ne hq), fun i h1 h2 => ?_, fun i hi => ?_⟩
    · rw [q128_13, w8, h6, show (8 * (u : Int) + (k : Int)) = ((8 * u + k : Nat) : Int) by omega, wr_id (x := (k : Int)) (by omega) (by omega), wr_id (x := ((8 * u + k : Nat) : Int)) (by omega) (by omega), if_pos (by omega), if_pos (by omega), if_pos (by omega), toN, toN]
      exact r1
    · rcases Nat.eq_or_lt_of_le h1 with q | q
      · subst q
        rw [r4 _ (Or.inl (by omega)), up_e]
      · rw [r3 i q h2, up_p _ _ _ (by decide)]
    · rw [r4 i (by omega), up_j, if_neg (by omega)]
theorem stp_keep (d : Dt) : Stp2 d (d_keep1 d) := ⟨kp_0 (by decide), kp_0 (by decide), kp_0 (by decide), kp_0 (by decide), kp_0 (by decide), fun q h0 _ h => kp_row h0 (by omega)⟩
theorem m_keep {d : Dt} {σ : Sg} (hO : OkD d) (hM : InvM σ d) (hk : dk d < 2) : ∃ σ', Cal 128 [vR 40] σ = some (vI ((dk d + 1 : Nat) : Int), σ') ∧ InvM σ' (d_keep1 d) ∧ FrM σ σ' := by
  have hn := hO.1.2.1
  have hu8 := hO.1.2.2.2.2.2.2.2.1
  have w2 : wr 2 = 2 := by decide
  have e0 : Cal 128 [vR 40] σ = _ := q128_0 σ
  have m4 := hM.2.2.2.1
  have m6 := hM.2.2.2.2.2.1
  have m7 := hM.2.2.2.2.2.2.1
  rw [m7.1, w2, wr_id (x := (dk d : Int)) (by omega) (by omega), if_neg (by omega)] at e0
  obtain ⟨σ', r1, r2, r3, r4⟩ := mk_loop hk 8 0 σ (by omega) m7.1
  rw [show (((dk d : Nat) : Int) + 1) = ((dk d + 1 : Nat) : Int) by omega] at r1
  have en : dn (d_keep1 d) = dn d := (stp_keep d).1
  obtain ⟨X, hX⟩ : ∃ X, X = up σ' 40 8 ((dk d + 1 : Nat) : Int) := ⟨_, rfl⟩
  rw [← hX] at r1
  have k0 : ∀ j, j ≠ 8 → X 40 j = σ 40 j := fun j hj => by rw [hX, up_j, if_neg hj, r2 40 (by decide)]
  have kX : ∀ q, q ≠ 40 → q ≠ 46 → X q = σ q := fun q q0 q6 => by rw [hX, up_ne q0, r2 q q6]
  refine ⟨X, e0.trans r1, ?_, fun q hq => kX q (by omega) (by omega)⟩
  refine inv_mstep hM (stp_keep d) (fun q q0 _ _ q6 => kX q q0 q6) (k0 1 (by decide)) (k0 10 (by decide)) ⟨fun i hi => ?_, ?_⟩ ⟨?_, fun j hj => ?_⟩ ⟨?_, fun j hj => ?_⟩
  · rw [en] at hi
    rw [kp_row (q := 5) (by decide) (by omega), kX 44 (by decide) (by decide)]
    exact m4.1 i hi
  · rw [show db (d_keep1 d) = db d from kp_0 (by decide), kX 44 (by decide) (by decide)]
    exact m4.2
  · rw [k0 6 (by decide), show du (d_keep1 d) = du d from kp_0 (by decide)]
    exact m6.1
  · rw [show du (d_keep1 d) = du d from kp_0 (by decide)] at hj
    rw [en, kX 45 (by decide) (by decide), kp_row (by omega) (by omega)]
    exact m6.2 j hj
  · rw [hX, up_e, kp_k]
  · rw [kp_k] at hj
    rw [en]
    by_cases c : j = dk d
    · rw [c, kp_p]
      refine ⟨fun i hi => ?_, ?_⟩
      · rw [hX, up_p _ _ _ (by decide), r3 i (Nat.zero_le _) (by omega), m4.1 i hi]
        unfold curR
        rw [if_neg (by omega)]
      · rw [hX, up_p _ _ _ (by decide), r3 7 (Nat.zero_le _) (by decide), m4.2]
        unfold curR
        rw [if_pos rfl]
    · rw [kp_row (by omega) (by omega)]
      have p := m7.2 j (by omega)
      refine ⟨fun i hi => ?_, ?_⟩
      · rw [hX, up_p _ _ _ (by decide), r4 _ (Or.inl (by omega))]
        exact p.1 i hi
      · rw [hX, up_p _ _ _ (by decide), r4 _ (Or.inl (by omega))]
        exact p.2
theorem m_keep2 {d : Dt} {σ : Sg} (hM : InvM σ d) (hk : dk d = 2) : Cal 128 [vR 40] σ = some (vI (-3), σ) := by
  have e0 : Cal 128 [vR 40] σ = _ := q128_0 σ
  rw [hM.2.2.2.2.2.2.1.1, hk, if_pos (by decide)] at e0
  exact e0
-- back
theorem mb_loop {u : Nat} (hu : u < 2) : ∀ (r k : Nat) (σ : Sg), k + r = 8 → σ 40 8 = (u : Int) → ∃ σ', Run 129 22 [vR 40, vI k] [] σ = some (vI (u : Int), up σ' 40 6 0) ∧ (∀ q, q ≠ 44 → σ' q = σ q) ∧ (∀ i, k ≤ i → i < 8 → σ' 44 i = σ 46 (8 * u + i)) ∧ (∀ i, i < k → σ' 44 i = σ 44 i)
  | 0, k, σ, h, h6 => by
    have w8 : wr 8 = 8 := by decide
    refine ⟨σ, ?_, fun _ _ => rfl, fun i h1 h2 => by omega, fun _ _ => rfl⟩
    rw [q129_22, w8, wr_id (by omega) (by omega), if_neg (by omega), up_j, if_neg (by decide), h6]
  | r + 1, k, σ, h, h6 => by
    have w8 : wr 8 = 8 := by decide
    obtain ⟨σ', r1, r2, r3, r4⟩ := mb_loop hu r (k + 1) (up σ 44 k (σ 46 (8 * u + k))) (by omega) (by rw [up_p _ _ _ (by decide)]; exact h6)
    refine ⟨σ', ?_, fun q hq => (r2 q hq).trans (up_ne hq), fun i h1 h2 => ?_, fun i hi => ?_⟩
    · rw [q129_22, w8, h6, show (8 * (u : Int) + (k : Int)) = ((8 * u + k : Nat) : Int) by omega, wr_id (x := (k : Int)) (by omega) (by omega), wr_id (x := ((8 * u + k : Nat) : Int)) (by omega) (by omega), if_pos (by omega), if_pos (by omega), if_pos (by omega), toN, toN]
      exact r1
    · rcases Nat.eq_or_lt_of_le h1 with q | q
      · subst q
        rw [r4 _ (by omega), up_e]
      · rw [r3 i q h2, up_p _ _ _ (by decide)]
    · rw [r4 i (by omega), up_j, if_neg (by omega)]
theorem m_back {d : Dt} {σ : Sg} (hO : OkD d) (hM : InvM σ d) (hk : 0 < dk d) : ∃ σ', Cal 129 [vR 40] σ = some (vI ((dk d - 1 : Nat) : Int), σ') ∧ InvM σ' (d_back1 d) ∧ FrM σ σ' := by
  have hn := hO.1.2.1
  have hk2 := hO.1.2.2.2.2.2.2.2.2
  have e0 : Cal 129 [vR 40] σ = _ := q129_0 σ
  have m7 := hM.2.2.2.2.2.2.1
  rw [m7.1, wr_id (x := (dk d : Int)) (by omega) (by omega), if_neg (by omega), show (((dk d : Nat) : Int) - 1) = ((dk d - 1 : Nat) : Int) by omega] at e0
  obtain ⟨σ', r1, r2, r3, r4⟩ := mb_loop (u := dk d - 1) (by omega) 8 0 (up σ 40 8 ((dk d - 1 : Nat) : Int)) (by omega) (up_e _ _ _ _)
  have en : dn (d_back1 d) = dn d := (stp_back d).1
  have p1 := m7.2 (dk d - 1) (by omega)
  obtain ⟨X, hX⟩ : ∃ X, X = up σ' 40 6 0 := ⟨_, rfl⟩
  rw [← hX] at r1
  have v : ∀ i, i < 8 → X 44 i = σ 46 (8 * (dk d - 1) + i) := fun i hi => by rw [hX, up_p _ _ _ (by decide), r3 i (Nat.zero_le _) hi, up_p _ _ _ (by decide)]
  have kX : ∀ q, q ≠ 40 → q ≠ 44 → X q = σ q := fun q q0 q4 => by rw [hX, up_ne q0, r2 q q4, up_ne q0]
  have k0 : ∀ j, j ≠ 6 → j ≠ 8 → X 40 j = σ 40 j := fun j h6 h8 => by rw [hX, up_j, if_neg h6, r2 40 (by decide), up_j, if_neg h8]
  refine ⟨X, e0.trans r1, ?_, fun q hq => kX q (by omega) (by omega)⟩
  refine inv_mstep hM (stp_back d) (fun q q0 q4 _ _ => kX q q0 q4) (k0 1 (by decide) (by decide)) (k0 10 (by decide) (by decide)) ⟨fun i hi => ?_, ?_⟩ ⟨?_, fun j hj => ?_⟩ ⟨?_, fun j hj => ?_⟩
  · rw [en] at hi
    rw [bk_5, v i (by omega)]
    exact p1.1 i hi
  · rw [bk_b, v 7 (by decide)]
    exact p1.2
  · rw [hX, up_e, bk_u]; rfl
  · rw [bk_u] at hj
    omega
  · rw [hX, up_j, if_neg (by decide), r2 40 (by decide), up_e, bk_k]
  · rw [bk_k] at hj
    rw [en, kX 46 (by decide) (by decide), bk_row (by omega) (by omega)]
    exact m7.2 j (by omega)
theorem m_back0 {d : Dt} {σ : Sg} (hM : InvM σ d) (hk : dk d = 0) : Cal 129 [vR 40] σ = some (vI (-2), σ) := by
  have e0 : Cal 129 [vR 40] σ = _ := q129_0 σ
  rw [hM.2.2.2.2.2.2.1.1, hk, if_pos (by decide)] at e0
  exact e0
