/-! THE SURVEY: one seating, then all -/
theorem wh_bq (d : Dt) (k : Nat) : (whK d k == dB d) = true ↔ whK d k = dB d := by simp
theorem sv_a {d : Dt} {k : Nat} {σ : Sg} {x6 : AV} (hO : OkD d) (hB : BandI σ d) (hk : k < fac (dn d)) (hS : SvK σ d k) : ∃ σ', Run 29 12 [vR 29, vR 20, vR 1, vI (db d), vR 26, vI k, x6] [] σ = Run 29 99 [vR 29, vR 20, vR 1, vI (db d), vR 26, vI k, x6] [] σ' ∧ (∀ q, q ≠ 29 → q ≠ 30 → q ≠ 31 → q ≠ 34 → q ≠ 35 → q ≠ 36 → σ' q = σ q) ∧ (∀ j, j ≠ 5 → σ' 29 j = σ 29 j) ∧ σ' 29 5 = (most (ntK d) (k + 1)).1 ∧ Rep σ' 30 (dn d) (pmF (dn d) (most (ntK d) (k + 1)).2) ∧ (∀ v, v ≤ 56 → σ' 31 v = ((cnt (fun j => ntK d j == v) (k + 1) : Nat) : Int)) ∧ σ' 34 3 = ((whK d k : Nat) : Int) ∧ (∀ b, b < dB d → σ' 36 b = ((plK d k b : Nat) : Int)) := by
  have hn := hO.1.2.1
  have hB8 := hO.1.2.2.1
  have hf := fac_le (dn d) hn
  have hg := hO.1.2.2.2.1
  have w7 : wr 7 = 7 := by decide
  obtain ⟨v1, v2, v3, v4⟩ := hS
  obtain ⟨s1, r1, r2, r3⟩ := play_all (e := 34) (p := 32) (may := 127) (g := dg d) (bb := db d) (ss := pmF (dn d) k) (Or.inr (Or.inl rfl)) (Or.inr (Or.inr rfl)) hB.1 (by omega) hO.1.2.2.2.2.1 (by decide) (pmF_perm _ k) v2
  have r3 := EvB_127 hn hO.2.2.1 r3
  have ln := ntK_le hO k
  have n2 : s1 34 2 = ((ntK d k : Nat) : Int) := r3.1
  have e0 := q29_12 (db d : Int) (k : Int) x6 σ
  have r1' : Cal 13 [vR 34, vR 20, vR 32, vI ((dg d : Nat) : Int), vI ((db d : Nat) : Int), vI 127] σ = _ := r1
  rw [v1, wr_id (x := (k : Int)) (by omega) (by omega), wr_id (x := ((fac (dn d) : Nat) : Int)) (by omega) (by omega), if_pos (show (k : Int) < ((fac (dn d) : Nat) : Int) by omega), hB.2.2, r1', kcV_s, n2, wr_id (x := ((ntK d k : Nat) : Int)) (by omega) (by omega), if_pos (show 0 ≤ ((ntK d k : Nat) : Int) ∧ ((ntK d k : Nat) : Int) < 57 by omega), if_pos (show 0 ≤ ((ntK d k : Nat) : Int) ∧ ((ntK d k : Nat) : Int) < 57 by omega), toN] at e0
  obtain ⟨h1, h2, h3, h4, h5, h6⟩ := v4
  have hh : s1 31 (ntK d k) + 1 = ((cnt (fun j => ntK d j == ntK d k) (k + 1) : Nat) : Int) := by
    rw [r2 31 (by decide) (by decide) (by decide), h6 _ ln]
    show _ = ((cnt (fun j => ntK d j == ntK d k) k + _ : Nat) : Int)
    rw [if_pos (by simp)]
    rfl
  rw [hh] at e0
  obtain ⟨X, hX⟩ : ∃ X, X = up s1 31 (ntK d k) ((cnt (fun j => ntK d j == ntK d k) (k + 1) : Nat) : Int) := ⟨_, rfl⟩
  rw [← hX] at e0
  have kX : ∀ q, q ≠ 31 → X q = s1 q := fun q hq => by rw [hX, up_ne hq]
  have hist : ∀ v, v ≤ 56 → X 31 v = ((cnt (fun j => ntK d j == v) (k + 1) : Nat) : Int) := fun v hv => by
    rw [hX, up_j]
    by_cases c : v = ntK d k
    · rw [if_pos c, c]
    · rw [if_neg c, r2 31 (by decide) (by decide) (by decide), h6 v hv]
      show _ = ((cnt (fun j => ntK d j == v) k + _ : Nat) : Int)
      rw [if_neg (by simpa using fun z => c z.symm)]
      rfl
  have lm := most_le (f := ntK d) (fun k => ntK_le hO k) k
  have x5 : X 29 5 = (most (ntK d) k).1 := by rw [kX 29 (by decide), r2 29 (by decide) (by decide) (by decide), h4]
  have x2 : X 34 2 = ((ntK d k : Nat) : Int) := by rw [kX 34 (by decide), n2]
  have x3 : X 34 3 = ((whK d k : Nat) : Int) := by rw [kX 34 (by decide)]; exact r3.2.1
  have xp : ∀ b, b < dB d → X 36 b = ((plK d k b : Nat) : Int) := fun b hb => by rw [kX 36 (by decide)]; exact r3.2.2.1 b hb
  rw [x5, x2, wr_id (x := (most (ntK d) k).1) (by omega) (by omega), wr_id (x := ((ntK d k : Nat) : Int)) (by omega) (by omega), w7, wr_0, show (7 : Int).toNat = 7 from rfl, Int.toNat_zero] at e0
  by_cases c : (most (ntK d) k).1 < ((ntK d k : Nat) : Int)
  · have em : most (ntK d) (k + 1) = (((ntK d k : Nat) : Int), k) := by
      show (if _ then _ else _) = _
      rw [if_pos c]
    rw [if_pos c, if_pos (by decide)] at e0
    rw [em]
    obtain ⟨Y, hY⟩ : ∃ Y, Y = cpy (up X 29 5 ((ntK d k : Nat) : Int)) 32 0 30 0 7 := ⟨_, rfl⟩
    rw [← hY] at e0
    have kY : ∀ q, q ≠ 29 → q ≠ 30 → Y q = X q := fun q q1 q2 => by rw [hY, cpy_ne q2, up_ne q1]
    have y29 : Y 29 = up X 29 5 ((ntK d k : Nat) : Int) 29 := by rw [hY, cpy_ne (by decide)]
    refine ⟨Y, e0, fun q q1 q2 q3 q4 q5 q6 => by rw [kY q q1 q2, kX q q3, r2 q q4 q5 q6], fun j hj => ?_, ?_, fun i hi => ?_, fun v hv => ?_, ?_, fun b hb => ?_⟩
    · rw [y29, up_j, if_neg hj, kX 29 (by decide), r2 29 (by decide) (by decide) (by decide)]
    · rw [y29, up_e]
    · rw [hY]
      unfold cpy
      rw [if_pos (by omega), Nat.zero_add, Nat.sub_zero, up_ne (by decide), kX 32 (by decide), r2 32 (by decide) (by decide) (by decide)]
      exact v2 i hi
    · rw [kY 31 (by decide) (by decide)]
      exact hist v hv
    · rw [kY 34 (by decide) (by decide)]
      exact x3
    · rw [kY 36 (by decide) (by decide)]
      exact xp b hb
  · have em : most (ntK d) (k + 1) = most (ntK d) k := by
      show (if _ then _ else _) = _
      rw [if_neg c]
    rw [if_neg c] at e0
    rw [em]
    have k0 : 0 < k := by
      rcases Nat.eq_zero_or_pos k with g | g
      · exfalso
        rw [g] at c
        apply c
        show (-1 : Int) < _
        omega
      · exact g
    refine ⟨X, e0, fun q q1 q2 q3 q4 q5 q6 => by rw [kX q q3, r2 q q4 q5 q6], fun j hj => ?_, x5, ?_, hist, x3, xp⟩
    · rw [kX 29 (by decide), r2 29 (by decide) (by decide) (by decide)]
    · exact (h5 k0).kept (by rw [kX 30 (by decide), r2 30 (by decide) (by decide) (by decide)])
theorem sv_b {d : Dt} {k : Nat} {σ : Sg} {x6 : AV} (hO : OkD d) (hB : BandI σ d) (hk : k < fac (dn d)) (h32 : Rep σ 32 (dn d) (pmF (dn d) k)) (h33 : ∀ v, v < dn d → σ 33 v = ((sof (d 5) v (dn d) : Nat) : Int)) (w3 : σ 34 3 = ((whK d k : Nat) : Int)) (h2 : σ 29 2 = ((cnt (fun j => whK d j == dB d) k : Nat) : Int)) (h4 : σ 29 4 = fewest (fun j => whK d j == dB d) (farK d) k) : ∃ σ' x6', Run 29 99 [vR 29, vR 20, vR 1, vI (db d), vR 26, vI k, x6] [] σ = Run 29 160 [vR 29, vR 20, vR 1, vI (db d), vR 26, vI k, x6'] [] σ' ∧ (∀ q, q ≠ 29 → σ' q = σ q) ∧ (∀ j, j ≠ 2 → j ≠ 4 → σ' 29 j = σ 29 j) ∧ σ' 29 2 = ((cnt (fun j => whK d j == dB d) (k + 1) : Nat) : Int) ∧ σ' 29 4 = fewest (fun j => whK d j == dB d) (farK d) (k + 1) := by
  have hn := hO.1.2.1
  have hB8 := hO.1.2.2.1
  have lw := whK_le d k
  have lf := farK_le d k
  have w4 : wr (-4) = -4 := by decide
  have lfe := few_le (P := fun j => whK d j == dB d) (f := farK d) (fun k => by have := farK_le d k; omega) k
  have e0 := q29_99 (db d : Int) (k : Int) x6 σ
  rw [w3, hB.1.2.2.1, wr_id (x := ((whK d k : Nat) : Int)) (by omega) (by omega), wr_id (x := (dB d : Int)) (by omega) (by omega)] at e0
  by_cases c : whK d k = dB d
  · have cb : ((fun j => whK d j == dB d) k) = true := (wh_bq d k).mpr c
    rw [if_pos (show ((whK d k : Nat) : Int) = (dB d : Int) by omega), h2] at e0
    have e2 : ((cnt (fun j => whK d j == dB d) k : Nat) : Int) + 1 = ((cnt (fun j => whK d j == dB d) (k + 1) : Nat) : Int) := by
      show _ = ((cnt (fun j => whK d j == dB d) k + _ : Nat) : Int)
      rw [if_pos cb]
      rfl
    rw [e2] at e0
    obtain ⟨X, hX⟩ : ∃ X, X = up σ 29 2 ((cnt (fun j => whK d j == dB d) (k + 1) : Nat) : Int) := ⟨_, rfl⟩
    rw [← hX] at e0
    have kX : ∀ q, q ≠ 29 → X q = σ q := fun q hq => by rw [hX, up_ne hq]
    have x4 : X 29 4 = fewest (fun j => whK d j == dB d) (farK d) k := by rw [hX, up_j, if_neg (by decide), h4]
    have ef : Cal 25 [vR 29, vI (dn d)] X = some (vI ((farK d k : Nat) : Int), X) := c_far hn hO.2.2.2.1 (pmF_perm _ k) (h32.kept (kX 32 (by decide))) (fun v hv => by rw [kX 33 (by decide)]; exact h33 v hv)
    rw [kX 20 (by decide), hB.1.1, ef, kcI_s, x4, w4, wr_id (x := fewest (fun j => whK d j == dB d) (farK d) k) (by omega) (by omega), wr_id (x := ((farK d k : Nat) : Int)) (by omega) (by omega)] at e0
    have e4 : fewest (fun j => whK d j == dB d) (farK d) (k + 1) = if fewest (fun j => whK d j == dB d) (farK d) k = -4 ∨ (farK d k : Int) < fewest (fun j => whK d j == dB d) (farK d) k then (farK d k : Int) else fewest (fun j => whK d j == dB d) (farK d) k := by
      show (if _ then _ else _) = _
      rw [if_pos cb]
    have fin : ∀ z : Int, z = fewest (fun j => whK d j == dB d) (farK d) (k + 1) → (∀ q, q ≠ 29 → up X 29 4 z q = σ q) ∧ (∀ j, j ≠ 2 → j ≠ 4 → up X 29 4 z 29 j = σ 29 j) ∧ up X 29 4 z 29 2 = ((cnt (fun j => whK d j == dB d) (k + 1) : Nat) : Int) ∧ up X 29 4 z 29 4 = fewest (fun j => whK d j == dB d) (farK d) (k + 1) := fun z hz =>
      ⟨fun q hq => by rw [up_ne hq, kX q hq], fun j j1 j2 => by rw [up_j, if_neg j2, hX, up_j, if_neg j1], by rw [up_j, if_neg (by decide), hX, up_e], by rw [up_e, hz]⟩
    by_cases c4 : fewest (fun j => whK d j == dB d) (farK d) k = -4
    · rw [if_pos c4] at e0
      refine ⟨_, _, e0, fin _ ?_⟩
      rw [e4, if_pos (Or.inl c4)]
    · rw [if_neg c4] at e0
      refine ⟨_, _, e0, fin _ ?_⟩
      rw [e4]
      by_cases c5 : (farK d k : Int) < fewest (fun j => whK d j == dB d) (farK d) k
      · rw [if_pos c5, if_pos (Or.inr c5)]
      · rw [if_neg c5, if_neg (fun z => z.elim c4 c5)]
  · have cb : ¬ ((fun j => whK d j == dB d) k) = true := fun z => c ((wh_bq d k).mp z)
    rw [if_neg (show ¬ ((whK d k : Nat) : Int) = (dB d : Int) by omega)] at e0
    refine ⟨σ, x6, e0, fun _ _ => rfl, fun _ _ _ => rfl, ?_, ?_⟩
    · rw [h2]
      show _ = ((cnt (fun j => whK d j == dB d) k + _ : Nat) : Int)
      rw [if_neg cb]
      rfl
    · rw [h4]
      show _ = (if _ then _ else _)
      rw [if_neg cb]
theorem sv_c {d : Dt} {k : Nat} {σ : Sg} {x6 : AV} (hO : OkD d) (hB : BandI σ d) (hN : NowI σ d) (hk : k < fac (dn d)) (h32 : Rep σ 32 (dn d) (pmF (dn d) k)) (h36 : ∀ b, b < dB d → σ 36 b = ((plK d k b : Nat) : Int)) (h3 : σ 29 3 = ((cnt (alK d) k : Nat) : Int)) : ∃ σ', Run 29 160 [vR 29, vR 20, vR 1, vI (db d), vR 26, vI k, x6] [] σ = Run 29 12 [vR 29, vR 20, vR 1, vI (db d), vR 26, vI ((k + 1 : Nat) : Int), x6] [] σ' ∧ (∀ q, q ≠ 29 → q ≠ 32 → σ' q = σ q) ∧ (∀ j, j ≠ 3 → σ' 29 j = σ 29 j) ∧ σ' 29 3 = ((cnt (alK d) (k + 1) : Nat) : Int) ∧ Rep σ' 32 (dn d) (pmF (dn d) (k + 1)) := by
  have hn := hO.1.2.1
  have ea : Cal 26 [vR 29, vI (dB d), vR 26] σ = some (vI (if alK d k = true then 1 else 0), σ) := (q26_0 _ σ).trans (c_alike_loop hO h36 hN.2.2.1 (dB d) 0 (by omega) (fun j hj => by omega))
  have fin : ∀ t : Int, ((cnt (alK d) k : Nat) : Int) + t = ((cnt (alK d) (k + 1) : Nat) : Int) → ∃ σ', Run 29 183 [vR 29, vR 20, vR 1, vI (db d), vR 26, vI k, x6] [vI t, vI ((cnt (alK d) k : Nat) : Int), vR 29] σ = Run 29 12 [vR 29, vR 20, vR 1, vI (db d), vR 26, vI ((k + 1 : Nat) : Int), x6] [] σ' ∧ (∀ q, q ≠ 29 → q ≠ 32 → σ' q = σ q) ∧ (∀ j, j ≠ 3 → σ' 29 j = σ 29 j) ∧ σ' 29 3 = ((cnt (alK d) (k + 1) : Nat) : Int) ∧ Rep σ' 32 (dn d) (pmF (dn d) (k + 1)) := fun t ht => by
    obtain ⟨X, hX⟩ : ∃ X, X = up σ 29 3 ((cnt (alK d) (k + 1) : Nat) : Int) := ⟨_, rfl⟩
    have kX : ∀ q, q ≠ 29 → X q = σ q := fun q hq => by rw [hX, up_ne hq]
    obtain ⟨s2, r1, r2, r3⟩ := nc_all (σ := X) hn hO.1.1 (pmF_perm _ k) (h32.kept (kX 32 (by decide)))
    have e1 := q29_183 (db d : Int) (k : Int) x6 ((cnt (alK d) k : Nat) : Int) t σ
    rw [ht, ← hX, kX 20 (by decide), hB.1.1, r1, kcV_s] at e1
    refine ⟨s2, e1, fun q q1 q2 => by rw [r2 q q2, kX q q1], fun j hj => ?_, ?_, r3⟩
    · rw [r2 29 (by decide), hX, up_j, if_neg hj]
    · rw [r2 29 (by decide), hX, up_e]
  have e0 := q29_160 (db d : Int) (k : Int) x6 σ
  rw [hB.1.2.2.1, ea, kcI_s, h3] at e0
  by_cases c : alK d k = true
  · rw [if_pos c, wr_1, if_neg (by decide)] at e0
    obtain ⟨σ', f⟩ := fin 1 (by
      show _ = ((cnt (alK d) k + _ : Nat) : Int)
      rw [if_pos c]
      rfl)
    exact ⟨σ', e0.trans f.1, f.2⟩
  · rw [if_neg c, wr_0, if_pos rfl] at e0
    obtain ⟨σ', f⟩ := fin 0 (by
      show _ = ((cnt (alK d) k + _ : Nat) : Int)
      rw [if_neg c]
      rfl)
    exact ⟨σ', e0.trans f.1, f.2⟩
theorem BandI.k {σ σ' : Sg} {d : Dt} (h : BandI σ d) (hq : ∀ q, q < 29 → σ' q = σ q) : BandI σ' d :=
  ⟨h.1.kept (hq _ (by decide)) (hq _ (by decide)) (hq _ (by decide)) (hq _ (by decide)), fun i hi => by rw [hq _ (by decide)]; exact h.2.1 i hi, by rw [hq _ (by decide)]; exact h.2.2⟩
theorem NowI.k {σ σ' : Sg} {d : Dt} (h : NowI σ d) (hq : ∀ q, q < 29 → σ' q = σ q) : NowI σ' d :=
  ⟨by rw [hq _ (by decide)]; exact h.1, by rw [hq _ (by decide)]; exact h.2.1, fun j hj => by rw [hq _ (by decide)]; exact h.2.2.1 j hj, fun i hi => by rw [hq _ (by decide)]; exact h.2.2.2 i hi⟩
theorem sv_loop {d : Dt} (hO : OkD d) : ∀ (r k : Nat) (σ : Sg) (x6 : AV), k + r = fac (dn d) → BandI σ d → NowI σ d → SvK σ d k → ∃ σ', Run 29 12 [vR 29, vR 20, vR 1, vI (db d), vR 26, vI k, x6] [] σ = some (vI 0, σ') ∧ (∀ q, q < 29 → σ' q = σ q) ∧ (∀ q, 37 ≤ q → σ' q = σ q) ∧ σ' 29 0 = 1 ∧ σ' 29 1 = ((fac (dn d) : Nat) : Int) ∧ SurvK σ' d (fac (dn d))
  | 0, k, σ, x6, h, hB, hN, hS => by
    have hf := fac_le (dn d) hO.1.2.1
    have e : k = fac (dn d) := by omega
    obtain ⟨v1, v2, v3, v4⟩ := hS
    rw [e] at v4
    refine ⟨up σ 29 0 1, ?_, fun q hq => up_ne (by omega), fun q hq => up_ne (by omega), up_e _ _ _ _, by rw [up_j, if_neg (by decide), v1], ?_⟩
    · rw [q29_12, v1, wr_id (x := (k : Int)) (by omega) (by omega), wr_id (x := ((fac (dn d) : Nat) : Int)) (by omega) (by omega), if_neg (by omega), if_pos (Or.inr rfl)]
    · obtain ⟨h1, h2, h3, h4, h5, h6⟩ := v4
      refine ⟨by rw [up_j, if_neg (by decide), h1], by rw [up_j, if_neg (by decide), h2], by rw [up_j, if_neg (by decide), h3], by rw [up_j, if_neg (by decide), h4], fun hk => (h5 hk).kept (up_ne (by decide)), fun v hv => by rw [up_p _ _ _ (by decide)]; exact h6 v hv⟩
  | r + 1, k, σ, x6, h, hB, hN, hS => by
    have hk : k < fac (dn d) := by omega
    obtain ⟨s1, a1, a2, a3, a4, a5, a6, a7, a8⟩ := sv_a (x6 := x6) hO hB hk hS
    obtain ⟨v1, v2, v3, h1, h2, h3, h4, h5, h6⟩ := hS
    have k1 : ∀ q, q < 29 → s1 q = σ q := fun q hq => a2 q (by omega) (by omega) (by omega) (by omega) (by omega) (by omega)
    obtain ⟨s2, x6', b1, b2, b3, b4, b5⟩ := sv_b (x6 := x6) hO (hB.k k1) hk (v2.kept (a2 32 (by decide) (by decide) (by decide) (by decide) (by decide) (by decide))) (fun v hv => by rw [a2 33 (by decide) (by decide) (by decide) (by decide) (by decide) (by decide)]; exact v3 v hv) a7 (by rw [a3 2 (by decide), h1]) (by rw [a3 4 (by decide), h3])
    have k2 : ∀ q, q < 29 → s2 q = σ q := fun q hq => by rw [b2 q (by omega), k1 q hq]
    obtain ⟨s3, c1, c2, c3, c4, c5⟩ := sv_c (x6 := x6') hO (hB.k k2) (hN.k k2) hk (v2.kept (by rw [b2 32 (by decide), a2 32 (by decide) (by decide) (by decide) (by decide) (by decide) (by decide)])) (fun b hb => by rw [b2 36 (by decide)]; exact a8 b hb) (by rw [b3 3 (by decide) (by decide), a3 3 (by decide), h2])
    have k3 : ∀ q, q < 29 → s3 q = σ q := fun q hq => by rw [c2 q (by omega) (by omega), k2 q hq]
    obtain ⟨σ', d1, d2, d3, d4⟩ := sv_loop hO r (k + 1) s3 x6' (by omega) (hB.k k3) (hN.k k3) ⟨by rw [c3 1 (by decide), b3 1 (by decide) (by decide), a3 1 (by decide), v1], c5, fun v hv => by rw [c2 33 (by decide) (by decide), b2 33 (by decide), a2 33 (by decide) (by decide) (by decide) (by decide) (by decide) (by decide)]; exact v3 v hv, by rw [c3 2 (by decide), b4], c4, by rw [c3 4 (by decide), b5], by rw [c3 5 (by decide), b3 5 (by decide) (by decide), a4], fun _ => a5.kept (by rw [c2 30 (by decide) (by decide), b2 30 (by decide)]), fun v hv => by rw [c2 31 (by decide) (by decide), b2 31 (by decide)]; exact a6 v hv⟩
    exact ⟨σ', a1.trans (b1.trans (c1.trans d1)), fun q hq => by rw [d2 q hq, k3 q hq], fun q hq => by rw [d3 q hq, c2 q (by omega) (by omega), b2 q (by omega), a2 q (by omega) (by omega) (by omega) (by omega) (by omega) (by omega)], d4⟩
/-- the survey, made if it is not fresh -/
theorem c_surv {d : Dt} {σ : Sg} (hO : OkD d) (hI : InvC σ d) : ∃ σ', Cal 53 [vR 0] σ = some (vR 29, σ') ∧ σ' 29 1 = ((fac (dn d) : Nat) : Int) ∧ SurvK σ' d (fac (dn d)) ∧ InvC σ' d ∧ FrC σ σ' := by
  have e0 : Cal 53 [vR 0] σ = _ := q53_0 σ
  have hI2 := hI
  obtain ⟨hB, hS, hN, h4, h5, h6, h7, hV⟩ := hI
  rcases hV with g | ⟨g0, g1, g2⟩
  · rw [g, wr_0, if_pos rfl, hS.2] at e0
    obtain ⟨s1, a1, a2, a3, a4⟩ := c_begin hO hS.1
    obtain ⟨s2, b1, b2, b3, b4, b5, b6⟩ := sv_loop hO (fac (dn d)) 0 s1 vJ (by omega) (hB.k a2) (hN.k a2) a4
    have e1 : Cal 29 [vR 29, vR 20, vR 1, vI ((db d : Nat) : Int), vR 26] σ = some (vI 0, s2) := by
      have e2 : Cal 29 [vR 29, vR 20, vR 1, vI ((db d : Nat) : Int), vR 26] σ = _ := q29_0 (db d : Int) σ
      rw [hB.1.1, a1, kcV_s] at e2
      exact e2.trans b1
    rw [e1, kcV_s] at e0
    exact ⟨s2, e0, b5, b6, hI2.ks (fun q hq => by rw [b2 q hq, a2 q hq]) (Or.inr ⟨b4, b5, b6⟩), fun q hq => by rw [b3 q (by omega), a3 q (by omega)]⟩
  · rw [g0, wr_1, if_neg (by decide)] at e0
    exact ⟨σ, e0, g1, g2, hI2, FrC.rf σ⟩
