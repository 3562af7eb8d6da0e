/-! help, to its end -/
theorem hpOut_le {d : Dt} (hB : dB d ≤ 8) (hn : dn d ≤ 7) : ∀ (r a : Nat) (s : Int × Nat), a + r = dn d → s.2 ≤ 64 → -4 ≤ s.1 ∧ s.1 < 64 → (hpOut d r a s).2 ≤ 64 ∧ -4 ≤ (hpOut d r a s).1 ∧ (hpOut d r a s).1 < 64
  | 0, _, s, _, h1, h2 => ⟨h1, h2.1, h2.2⟩
  | r + 1, a, s, h, h1, h2 => by
    have k := hpIn_le hB (by omega : a < 7) (dn d - (a + 1)) (a + 1) s (by omega) h1 h2
    exact hpOut_le hB hn r (a + 1) _ (by omega) k.1 k.2
theorem c_help_out {d : Dt} {x : Int} (hO : OkD d) (hx : InR x) (hx1 : 0 ≤ x ∧ x ≤ 1) : ∀ (r a : Nat) (s : Int × Nat) (x5 : AV) (σ : Sg), a + r = dn d → InvC σ d → Rep σ 2 (dn d) (d 5) → s.2 ≤ 64 → -4 ≤ s.1 ∧ s.1 < 64 → ∃ σ', Run 56 43 [vR 0, vI x, vI s.1, vI (s.2 : Int), vI a, x5] [] σ = some (vI (if (hpOut d r a s).1 = -4 then -4 else if x = 0 then (hpOut d r a s).1 else (((hpOut d r a s).2 : Nat) : Int)), σ') ∧ InvC σ' d ∧ FrC σ σ'
  | 0, a, s, x5, σ, h, hI, hR, h1, h2 => by
    have hn := hO.1.2.1
    have ha : a = dn d := by omega
    have w4 : wr (-4) = -4 := by decide
    refine ⟨σ, ?_, hI, FrC.rf σ⟩
    show _ = some (vI (if s.1 = -4 then -4 else if x = 0 then s.1 else ((s.2 : Nat) : Int)), σ)
    rw [q56_43, hI.1.1.1, if_neg (by rw [wr_id (by omega) (by omega), wr_id (by omega) (by omega)]; omega), w4, wr_id (x := s.1) (by omega) (by omega), wr_in hx]
    by_cases c : s.1 = -4
    · rw [if_pos c, if_pos c, c]
    · rw [if_neg c, if_neg c]
      by_cases c0 : x = 0
      · rw [if_pos c0, if_pos c0]
      · rw [if_neg c0, if_neg c0]
  | r + 1, a, s, x5, σ, h, hI, hR, h1, h2 => by
    have hn := hO.1.2.1
    have hB8 := hO.1.2.2.1
    obtain ⟨s1, t1, t2, t3, t4⟩ := c_help_in (x := x) hO (by omega : a < dn d) (dn d - (a + 1)) (a + 1) s σ (by omega) hI hR h1 h2
    have k := hpIn_le hB8 (by omega : a < 7) (dn d - (a + 1)) (a + 1) s (by omega) h1 h2
    obtain ⟨s2, u1, u2, u3⟩ := c_help_out hO hx hx1 r (a + 1) (hpIn d a (dn d - (a + 1)) (a + 1) s) (vI (dn d)) s1 (by omega) t2 t3 k.1 k.2
    refine ⟨s2, ?_, u2, t4.tr u3⟩
    rw [q56_43, hI.1.1.1, wr_id (x := (a : Int)) (by omega) (by omega), wr_id (x := (dn d : Int)) (by omega) (by omega), if_pos (by omega)]
    exact t1.trans u1
theorem c_help {d : Dt} {σ : Sg} {x : Int} (hO : OkD d) (hI : InvC σ d) (hx : InR x) : ∃ σ', Cal 56 [vR 0, vI x] σ = some (vI (r_help d x), σ') ∧ InvC σ' d ∧ FrC σ σ' := by
  have hn := hO.1.2.1
  have hB8 := hO.1.2.2.1
  have w7 : wr 7 = 7 := by decide
  have e0 : Cal 56 [vR 0, vI x] σ = _ := q56_0 x σ
  have hnt : ntD d ≤ 64 := by
    have : ntD d ≤ 8 * dB d := ntS_le _ _ _ _ _ _ _ _
    omega
  unfold r_help
  rw [wr_in hx, wr_1, wr_0, w7, show (7 : Int).toNat = 7 from rfl, Int.toNat_zero, hI.2.2.1.1] at e0
  by_cases c : 0 ≤ x ∧ x ≤ 1
  · rw [if_neg (show ¬ x < 0 by omega), if_neg (show ¬ 1 < x by omega), if_pos (by decide)] at e0
    rw [if_pos c]
    obtain ⟨X, hX⟩ : ∃ X, X = cpy σ 1 0 2 0 7 := ⟨_, rfl⟩
    rw [← hX] at e0
    have kX : ∀ q, q ≠ 2 → X q = σ q := fun q hq => by rw [hX, cpy_ne hq]
    have hI1 : InvC X d := hI.kx (fun q hq _ => kX q hq)
    have hR : Rep X 2 (dn d) (d 5) := fun i hi => by
      rw [hX]
      unfold cpy
      rw [if_pos (by omega), Nat.zero_add, Nat.sub_zero]
      exact hI.2.1.1 i hi
    obtain ⟨s2, u1, u2, u3⟩ := c_help_out hO hx c (dn d) 0 (-4, ntD d) vJ X (by omega) hI1 hR hnt ⟨(by decide : (-4 : Int) ≤ -4), (by decide : (-4 : Int) < 64)⟩
    exact ⟨s2, e0.trans u1, u2, fun q hq => by rw [u3 q hq, kX q (by omega)]⟩
  · rw [if_neg c]
    refine ⟨σ, e0.trans ?_, hI, FrC.rf σ⟩
    by_cases c0 : x < 0
    · rw [if_pos c0]
    · rw [if_neg c0, if_pos (by omega)]
-- the reference
theorem GoIn.seats {σ : Sg} {n : Nat} {kk ss ss' : Nat → Nat} {g bb mu : Nat} {τ : Sg} (h : GoIn σ n kk ss g bb mu) (h8 : Rep τ 48 n ss') (k : ∀ q, q ≠ 48 → τ q = σ q) : GoIn τ n kk ss' g bb mu := by
  obtain ⟨g1, g2, g3, g4, g5, g6, g7, g8⟩ := h
  exact ⟨h8, fun i hi => by rw [k 50 (by decide)]; exact g2 i hi, by rw [k 40 (by decide)]; exact g3, g4, by rw [k 40 (by decide)]; exact g5, g6, by rw [k 40 (by decide)]; exact g7, g8⟩
theorem InvM.k48 {σ τ : Sg} {d : Dt} (h : InvM σ d) (k : ∀ q, q ≠ 48 → τ q = σ q) : InvM τ d := h.kept (k _ (by decide)) (k _ (by decide)) (k _ (by decide)) (k _ (by decide)) (k _ (by decide)) (k _ (by decide)) (by rw [k 40 (by decide)]) (by rw [k 40 (by decide)]) (by rw [k 40 (by decide)]) (by rw [k 40 (by decide)])
theorem m_help_in {d : Dt} {x : Int} {a : Nat} (hO : OkD d) (ha : a < dn d) : ∀ (r b : Nat) (s : Int × Nat) (σ : Sg), b + r = dn d → InvM σ d → GoIn σ (dn d) (d 1) (d 5) (dg d) (db d) 0 → s.2 ≤ 64 → -4 ≤ s.1 ∧ s.1 < 64 → ∃ σ', Run 115 48 [vR 40, vI x, vI (s.2 : Int), vI s.1, vI a, vI b] [] σ = Run 115 31 [vR 40, vI x, vI ((hpIn d a r b s).2 : Int), vI (hpIn d a r b s).1, vI ((a : Int) + 1), vI (dn d)] [] σ' ∧ InvM σ' d ∧ GoIn σ' (dn d) (d 1) (d 5) (dg d) (db d) 0 ∧ FrM σ σ'
  | 0, b, s, σ, h, hM, hG, h1, h2 => by
    have hn := hO.1.2.1
    have hb : b = dn d := by omega
    refine ⟨σ, ?_, hM, hG, FrM.rf σ⟩
    rw [q115_48, wr_0, if_pos (by omega), Int.toNat_zero, hM.1.1, if_neg (by rw [wr_id (by omega) (by omega), wr_id (by omega) (by omega)]; omega), hb]
    rfl
  | r + 1, b, s, σ, h, hM, hG, h1, h2 => by
    have hn := hO.1.2.1
    have hB8 := hO.1.2.2.1
    have hb : b < dn d := by omega
    have e0 := q115_48 x (s.2 : Int) s.1 a b σ
    rw [wr_0, if_pos (by omega), Int.toNat_zero, hM.1.1, wr_id (x := (b : Int)) (by omega) (by omega), wr_id (x := (dn d : Int)) (by omega) (by omega), if_pos (by omega), swp_m (by omega) (by omega), kcV_s] at e0
    have hR : Rep σ 48 (dn d) (d 5) := hG.1
    obtain ⟨X, hX⟩ : ∃ X, X = up (up σ 48 a (σ 48 b)) 48 b (σ 48 a) := ⟨_, rfl⟩
    have hR1 : Rep X 48 (dn d) (swF (d 5) a b) := by rw [hX]; exact hR.sw ha hb
    rw [← hX] at e0
    have kX : ∀ q, q ≠ 48 → X q = σ q := fun q hq => by rw [hX, up_ne hq, up_ne hq]
    obtain ⟨s2, r1, r2, r3, r4, r5, r6⟩ := m_even hO (hM.k48 kX) (hG.seats hR1 kX) (swF_perm hO.2.2.2.1 ha hb)
    have hR2 : Rep s2 48 (dn d) (swF (d 5) a b) := hR1.kept (r5 48 (by decide) (by decide) (by decide))
    have l1 := ntX_le d (swF (d 5) a b) (dg d) (db d) 0
    rw [r1, kcI_s, r2, wr_id (x := (s.2 : Int)) (by omega) (by omega), wr_id (x := ((ntX d (swF (d 5) a b) (dg d) (db d) 0 : Nat) : Int)) (by omega) (by omega)] at e0
    obtain ⟨Y, hY⟩ : ∃ Y, Y = up (up s2 48 a (s2 48 b)) 48 b (s2 48 a) := ⟨_, rfl⟩
    have hR3 : Rep Y 48 (dn d) (d 5) := by
      rw [hY]
      exact (hR2.sw ha hb).to (fun i _ => swF_twice (d 5) a b i)
    have kY : ∀ q, q ≠ 48 → Y q = s2 q := fun q hq => by rw [hY, up_ne hq, up_ne hq]
    have e1 : Run 115 48 [vR 40, vI x, vI (s.2 : Int), vI s.1, vI a, vI b] [] σ = Run 115 48 [vR 40, vI x, vI ((hpS d a b s).2 : Int), vI (hpS d a b s).1, vI a, vI ((b : Int) + 1)] [] Y := by
      unfold hpS
      by_cases c : s.2 < ntX d (swF (d 5) a b) (dg d) (db d) 0
      · rw [if_pos (by omega), q115_92, r2, wr_id (x := (s.2 : Int)) (by omega) (by omega), wr_id (x := ((ntX d (swF (d 5) a b) (dg d) (db d) 0 : Nat) : Int)) (by omega) (by omega), if_pos (by omega), q115_109, swp_m (by omega) (by omega), kcV_s, ← hY] at e0
        rw [e0, if_pos c, show (8 * (a : Int) + (b : Int)) = ((8 * a + b : Nat) : Int) by omega]
      · rw [if_neg (by omega), q115_92, r2, wr_id (x := (s.2 : Int)) (by omega) (by omega), wr_id (x := ((ntX d (swF (d 5) a b) (dg d) (db d) 0 : Nat) : Int)) (by omega) (by omega), if_neg (by omega), q115_109, swp_m (by omega) (by omega), kcV_s, ← hY] at e0
        rw [e0, if_neg c]
    have kk := hpS_le hB8 h1 h2 (by omega : a < 7) (by omega : b < 7)
    obtain ⟨σ', t1, t2, t3, t4⟩ := m_help_in (x := x) hO ha r (b + 1) (hpS d a b s) Y (by omega) (r4.k48 kY) (r3.seats hR3 kY) kk.1 kk.2
    exact ⟨σ', e1.trans t1, t2, t3, fun q hq => by rw [t4 q hq, kY q (by omega), r5 q (by omega) (by omega) (by omega), kX q (by omega)]⟩
theorem m_help_out {d : Dt} {x : Int} (hO : OkD d) (hx : InR x) : ∀ (r a : Nat) (s : Int × Nat) (x5 : AV) (σ : Sg), a + r = dn d → InvM σ d → GoIn σ (dn d) (d 1) (d 5) (dg d) (db d) 0 → s.2 ≤ 64 → -4 ≤ s.1 ∧ s.1 < 64 → ∃ σ', Run 115 31 [vR 40, vI x, vI (s.2 : Int), vI s.1, vI a, x5] [] σ = some (vI (if (hpOut d r a s).1 = -4 then -4 else if x = 0 then (hpOut d r a s).1 else (((hpOut d r a s).2 : Nat) : Int)), σ') ∧ InvM σ' d ∧ FrM σ σ'
  | 0, a, s, x5, σ, h, hM, hG, h1, h2 => by
    have hn := hO.1.2.1
    have ha : a = dn d := by omega
    have w4 : wr (-4) = -4 := by decide
    refine ⟨σ, ?_, hM, FrM.rf σ⟩
    show _ = some (vI (if s.1 = -4 then -4 else if x = 0 then s.1 else ((s.2 : Nat) : Int)), σ)
    rw [q115_31, wr_0, if_pos (by omega), Int.toNat_zero, hM.1.1, if_neg (by rw [wr_id (by omega) (by omega), wr_id (by omega) (by omega)]; omega), w4, wr_id (x := s.1) (by omega) (by omega), wr_in hx]
    by_cases c : s.1 = -4
    · rw [if_pos c, if_pos c, c]
      by_cases c0 : x = 0
      · rw [if_pos c0]
      · rw [if_neg c0]
    · rw [if_neg c, if_neg c]
      by_cases c0 : x = 0
      · rw [if_pos c0, if_pos c0]
      · rw [if_neg c0, if_neg c0]
  | r + 1, a, s, x5, σ, h, hM, hG, h1, h2 => by
    have hn := hO.1.2.1
    have hB8 := hO.1.2.2.1
    obtain ⟨s1, t1, t2, t3, t4⟩ := m_help_in (x := x) hO (by omega : a < dn d) (dn d - (a + 1)) (a + 1) s σ (by omega) hM hG h1 h2
    have k := hpIn_le hB8 (by omega : a < 7) (dn d - (a + 1)) (a + 1) s (by omega) h1 h2
    obtain ⟨s2, u1, u2, u3⟩ := m_help_out hO hx r (a + 1) (hpIn d a (dn d - (a + 1)) (a + 1) s) (vI (dn d)) s1 (by omega) t2 t3 k.1 k.2
    refine ⟨s2, ?_, u2, t4.tr u3⟩
    rw [q115_31, wr_0, if_pos (by omega), Int.toNat_zero, hM.1.1, wr_id (x := (a : Int)) (by omega) (by omega), wr_id (x := (dn d : Int)) (by omega) (by omega), if_pos (by omega)]
    exact t1.trans u1
theorem m_help {d : Dt} {σ : Sg} {x : Int} (hO : OkD d) (hM : InvM σ d) (hx : InR x) : ∃ σ', Cal 115 [vR 40, vI x] σ = some (vI (r_help d x), σ') ∧ InvM σ' d ∧ FrM σ σ' := by
  have hn := hO.1.2.1
  have hB8 := hO.1.2.2.1
  have e0 : Cal 115 [vR 40, vI x] σ = _ := q115_0 x σ
  have e1 : Cal 79 [vI x, vI 0, vI 1] σ = some (vI (if 0 ≤ x ∧ x ≤ 1 then 1 else 0), σ) := in_m hx ⟨by omega, by omega⟩ ⟨by omega, by omega⟩
  have hnt : ntD d ≤ 64 := by
    have : ntD d ≤ 8 * dB d := ntS_le _ _ _ _ _ _ _ _
    omega
  rw [e1, kcI_s] at e0
  unfold r_help
  by_cases c : 0 ≤ x ∧ x ≤ 1
  · obtain ⟨σ1, σ2, r1, r2, r3, r4, r5, r6⟩ := now_m hO hM
    rw [if_pos c, wr_1, if_neg (by decide), r1, kcV_s, r2, kcI_s, r3.1] at e0
    rw [if_pos c]
    obtain ⟨s2, u1, u2, u3⟩ := m_help_out hO hx (dn d) 0 (-4, ntD d) vJ σ2 (by omega) r5 r4 hnt ⟨(by decide : (-4 : Int) ≤ -4), (by decide : (-4 : Int) < 64)⟩
    exact ⟨s2, e0.trans u1, u2, r6.tr u3⟩
  · rw [if_neg c, wr_0, if_pos rfl] at e0
    rw [if_neg c]
    exact ⟨σ, e0, hM, FrM.rf σ⟩
