/-! heard -/
def r_heard (d : Dt) (x y z : Int) : Int := if (0 ≤ x ∧ x < (dn d : Int)) ∧ (0 ≤ y ∧ y < (dB d : Int)) ∧ 0 ≤ z ∧ z ≤ 1 then (if dh d = 8 then -3 else ((dh d : Nat) : Int) + 1) else -1
def d_heard1 (d : Dt) (x y z : Int) : Dt := uq (uq (uq (uq d 7 (dh d) x.toNat) 8 (dh d) y.toNat) 9 (dh d) z.toNat) 0 5 (dh d + 1)
def d_heard (d : Dt) (x y z : Int) : Dt := if (0 ≤ x ∧ x < (dn d : Int)) ∧ (0 ≤ y ∧ y < (dB d : Int)) ∧ 0 ≤ z ∧ z ≤ 1 then (if dh d = 8 then d else d_heard1 d x y z) else d
theorem dhr_row {d : Dt} {x y z : Int} {q : Nat} (h0 : q ≠ 0) (h7 : q ≠ 7) (h8 : q ≠ 8) (h9 : q ≠ 9) : d_heard1 d x y z q = d q := by
  unfold d_heard1
  rw [uq_row h0, uq_row h9, uq_row h8, uq_row h7]
theorem dhr_0 {d : Dt} {x y z : Int} {j : Nat} (h : j ≠ 5) : d_heard1 d x y z 0 j = d 0 j := by
  unfold d_heard1
  rw [uq_0 h, uq_row (by decide), uq_row (by decide), uq_row (by decide)]
theorem dhr_5 {d : Dt} {x y z : Int} : dh (d_heard1 d x y z) = dh d + 1 := by
  unfold dh d_heard1
  exact if_pos ⟨rfl, rfl⟩
theorem dhr_7 {d : Dt} {x y z : Int} {j : Nat} : d_heard1 d x y z 7 j = if j = dh d then x.toNat else d 7 j := by simp [d_heard1, uq]
theorem dhr_8 {d : Dt} {x y z : Int} {j : Nat} : d_heard1 d x y z 8 j = if j = dh d then y.toNat else d 8 j := by simp [d_heard1, uq]
theorem dhr_9 {d : Dt} {x y z : Int} {j : Nat} : d_heard1 d x y z 9 j = if j = dh d then z.toNat else d 9 j := by simp [d_heard1, uq]
theorem c_heard {d : Dt} {σ : Sg} {x y z : Int} (hO : OkD d) (hI : InvC σ d) (hx : InR x) (hy : InR y) (hz : InR z) : ∃ σ', Cal 64 [vR 0, vI x, vI y, vI z] σ = some (vI (r_heard d x y z), σ') ∧ InvC σ' (d_heard d x y z) ∧ FrC σ σ' := by
  have hh8 := hO.1.2.2.2.2.2.2.1
  have hn := hO.1.2.1
  have hB := hO.1.2.2.1
  have e0 : Cal 64 [vR 0, vI x, vI y, vI z] σ = _ := q64_0 x y z σ
  have w8 : wr 8 = 8 := by decide
  have hh := hI.2.2.2.2.1.1
  unfold r_heard d_heard
  rw [isI_c hI.1 hx, kcI_s] at e0
  by_cases c1 : 0 ≤ x ∧ x < (dn d : Int)
  case neg =>
    rw [if_neg c1, wr_0, if_pos rfl] at e0
    rw [if_neg (fun z => c1 z.1), if_neg (fun z => c1 z.1)]
    exact ⟨σ, e0, hI, FrC.rf σ⟩
  rw [if_pos c1, wr_1, if_neg (by decide), isB_c hI.1 hy, kcI_s] at e0
  by_cases c2 : 0 ≤ y ∧ y < (dB d : Int)
  case neg =>
    rw [if_neg c2, wr_0, if_pos rfl] at e0
    rw [if_neg (fun z => c2 z.2.1), if_neg (fun z => c2 z.2.1)]
    exact ⟨σ, e0, hI, FrC.rf σ⟩
  rw [if_pos c2, wr_1, if_neg (by decide), wr_in hz] at e0
  by_cases c3 : 0 ≤ z ∧ z ≤ 1
  case neg =>
    rw [if_neg (fun z => c3 z.2.2), if_neg (fun z => c3 z.2.2)]
    refine ⟨σ, e0.trans ?_, hI, FrC.rf σ⟩
    by_cases c4 : z < 0
    · rw [if_pos c4]
    · rw [if_neg c4, if_pos (by omega)]
  rw [if_neg (by omega), if_neg (by omega), hh, w8, wr_id (x := (dh d : Int)) (by omega) (by omega)] at e0
  have cc : (0 ≤ x ∧ x < (dn d : Int)) ∧ (0 ≤ y ∧ y < (dB d : Int)) ∧ 0 ≤ z ∧ z ≤ 1 := ⟨c1, c2, c3⟩
  rw [if_pos cc, if_pos cc]
  by_cases c4 : dh d = 8
  · rw [if_neg (by omega)] at e0
    rw [if_pos c4, if_pos c4]
    exact ⟨σ, e0, hI, FrC.rf σ⟩
  rw [if_pos (by omega)] at e0
  rw [if_neg c4, if_neg c4]
  have U4 : ∀ (σ : Sg) i x j, up σ 4 i x 0 j = σ 0 j := fun _ _ _ _ => up_p _ _ _ (by decide)
  have U5 : ∀ (σ : Sg) i x j, up σ 5 i x 0 j = σ 0 j := fun _ _ _ _ => up_p _ _ _ (by decide)
  have U6 : ∀ (σ : Sg) i x j, up σ 6 i x 0 j = σ 0 j := fun _ _ _ _ => up_p _ _ _ (by decide)
  have c8 : 0 ≤ ((dh d : Nat) : Int) ∧ ((dh d : Nat) : Int) < 8 := by omega
  have wh : wr ((dh d : Nat) : Int) = ((dh d : Nat) : Int) := wr_id (by omega) (by omega)
  simp only [U4, U5, U6, hh, wh, if_pos c8, toN, up_e] at e0
  obtain ⟨X, hX⟩ : ∃ X, X = up (up (up (up σ 4 (dh d) x) 5 (dh d) y) 6 (dh d) z) 0 13 (((dh d : Nat) : Int) + 1) := ⟨_, rfl⟩
  rw [← hX] at e0
  have k : ∀ q, q ≠ 0 → q ≠ 4 → q ≠ 5 → q ≠ 6 → X q = σ q := fun q h0 h4 h5 h6 => by rw [hX, up_ne h0, up_ne h6, up_ne h5, up_ne h4]
  have k0 : ∀ j, j ≠ 13 → X 0 j = σ 0 j := fun j hj => by rw [hX, up_j, if_neg hj, U6, U5, U4]
  obtain ⟨b1, b2, b3, b4, b5, b6, b7, b8⟩ := hI
  have z1 : BandI X d := b1.kept (k _ (by decide) (by decide) (by decide) (by decide)) (k _ (by decide) (by decide) (by decide) (by decide)) (k _ (by decide) (by decide) (by decide) (by decide)) (k _ (by decide) (by decide) (by decide) (by decide)) (k _ (by decide) (by decide) (by decide) (by decide))
  have z2 : SeatI X d := b2.kept (k _ (by decide) (by decide) (by decide) (by decide)) (k0 _ (by decide))
  have z3 : NowI X d := b3.kept (k _ (by decide) (by decide) (by decide) (by decide)) (k _ (by decide) (by decide) (by decide) (by decide)) (k _ (by decide) (by decide) (by decide) (by decide))
  have z4 : TextI X d := b4.kept (congrFun (k _ (by decide) (by decide) (by decide) (by decide)) _) (k _ (by decide) (by decide) (by decide) (by decide))
  have z6 : KeptI X d := b6.kept (k0 _ (by decide)) (k _ (by decide) (by decide) (by decide) (by decide)) (k _ (by decide) (by decide) (by decide) (by decide)) (k _ (by decide) (by decide) (by decide) (by decide))
  have z7 : UndoI X d := ⟨by rw [k0 _ (by decide)]; exact b7.1, fun j hj => by rw [k 3 (by decide) (by decide) (by decide) (by decide)]; exact b7.2 j hj⟩
  have z8 : SurvI X d := b8.kept (k _ (by decide) (by decide) (by decide) (by decide)) (k _ (by decide) (by decide) (by decide) (by decide)) (k _ (by decide) (by decide) (by decide) (by decide))
  refine ⟨X, e0, ⟨z1, z2, z3, z4, ⟨?_, fun j hj => ?_⟩, z6.to (dhr_0 (by decide)) (dhr_0 (by decide)) (fun j => dhr_row (by omega) (by omega) (by omega) (by omega)), z7.to (dhr_0 (by decide)) (dhr_0 (by decide)) (dhr_0 (by decide)) (dhr_row (by omega) (by omega) (by omega) (by omega)) (fun j => dhr_row (by omega) (by omega) (by omega) (by omega)), z8⟩, fun q hq => k q (by omega) (by omega) (by omega) (by omega)⟩
  · rw [hX, up_e, dhr_5]
    omega
  · rw [dhr_5] at hj
    rw [dhr_7, dhr_8, dhr_9]
    have x4 : X 4 j = if j = dh d then x else σ 4 j := by rw [hX, up_p _ _ _ (by decide), up_p _ _ _ (by decide), up_p _ _ _ (by decide), up_j]
    have x5 : X 5 j = if j = dh d then y else σ 5 j := by rw [hX, up_p _ _ _ (by decide), up_p _ _ _ (by decide), up_j, up_p _ _ _ (by decide)]
    have x6 : X 6 j = if j = dh d then z else σ 6 j := by rw [hX, up_p _ _ _ (by decide), up_j, up_p _ _ _ (by decide), up_p _ _ _ (by decide)]
    rw [x4, x5, x6]
    by_cases c : j = dh d
    · simp only [if_pos c]
      omega
    · simp only [if_neg c]
      exact b5.2 j (by omega)
theorem m_heard {d : Dt} {σ : Sg} {x y z : Int} (hO : OkD d) (hM : InvM σ d) (hx : InR x) (hy : InR y) (hz : InR z) : ∃ σ', Cal 123 [vR 40, vI x, vI y, vI z] σ = some (vI (r_heard d x y z), σ') ∧ InvM σ' (d_heard d x y z) ∧ FrM σ σ' := by
  have hh8 := hO.1.2.2.2.2.2.2.1
  have hn := hO.1.2.1
  have hB := hO.1.2.2.1
  have e0 : Cal 123 [vR 40, vI x, vI y, vI z] σ = _ := q123_0 x y z σ
  have w8 : wr 8 = 8 := by decide
  have hh := hM.2.2.2.2.2.2.2.1
  unfold r_heard d_heard
  rw [isI_m hM hx, kcI_s] at e0
  by_cases c1 : 0 ≤ x ∧ x < (dn d : Int)
  case neg =>
    rw [if_neg c1, wr_0, if_pos rfl] at e0
    rw [if_neg (fun z => c1 z.1), if_neg (fun z => c1 z.1)]
    exact ⟨σ, e0, hM, FrM.rf σ⟩
  rw [if_pos c1, wr_1, if_neg (by decide), isB_m hM hy, kcI_s] at e0
  by_cases c2 : 0 ≤ y ∧ y < (dB d : Int)
  case neg =>
    rw [if_neg c2, wr_0, if_pos rfl] at e0
    rw [if_neg (fun z => c2 z.2.1), if_neg (fun z => c2 z.2.1)]
    exact ⟨σ, e0, hM, FrM.rf σ⟩
  rw [if_pos c2, wr_1, if_neg (by decide), in_m hz ⟨by omega, by omega⟩ ⟨by omega, by omega⟩, kcI_s] at e0
  by_cases c3 : 0 ≤ z ∧ z ≤ 1
  case neg =>
    rw [if_neg c3, wr_0, if_pos rfl] at e0
    rw [if_neg (fun z => c3 z.2.2), if_neg (fun z => c3 z.2.2)]
    exact ⟨σ, e0, hM, FrM.rf σ⟩
  rw [if_pos c3, wr_1, if_neg (by decide), hh, w8, wr_id (x := (dh d : Int)) (by omega) (by omega)] at e0
  have cc : (0 ≤ x ∧ x < (dn d : Int)) ∧ (0 ≤ y ∧ y < (dB d : Int)) ∧ 0 ≤ z ∧ z ≤ 1 := ⟨c1, c2, c3⟩
  rw [if_pos cc, if_pos cc]
  by_cases c4 : dh d = 8
  · rw [if_pos (by omega)] at e0
    rw [if_pos c4, if_pos c4]
    exact ⟨σ, e0, hM, FrM.rf σ⟩
  rw [if_neg (by omega), if_pos (by omega), toN, up_e, up_p _ _ _ (by decide), hh] at e0
  rw [if_neg c4, if_neg c4]
  obtain ⟨X, hX⟩ : ∃ X, X = up (up σ 47 (dh d) (100 * x + 10 * y + z)) 40 10 (((dh d : Nat) : Int) + 1) := ⟨_, rfl⟩
  rw [← hX] at e0
  have k : ∀ q, q ≠ 40 → q ≠ 47 → X q = σ q := fun q h0 h4 => by rw [hX, up_ne h0, up_ne h4]
  have k0 : ∀ j, j ≠ 10 → X 40 j = σ 40 j := fun j hj => by rw [hX, up_j, if_neg hj, up_p _ _ _ (by decide)]
  obtain ⟨m1, m2, m3, m4, m5, m6, m7, m8⟩ := hM
  have z1 : ToldM X (dn d) (dB d) (d 2) (d 4) := m1.kept (k _ (by decide) (by decide))
  refine ⟨X, e0, ⟨z1, ?_, ?_, ?_, ?_, ?_, ?_, ⟨?_, fun j hj => ?_⟩⟩, fun q hq => k q (by omega) (by omega)⟩
  · rw [k 42 (by decide) (by decide)]; exact m2
  · rw [k 42 (by decide) (by decide)]; exact m3
  · rw [k 44 (by decide) (by decide)]; exact m4
  · rw [k 41 (by decide) (by decide), k0 1 (by decide)]; exact m5
  · rw [k 45 (by decide) (by decide), k0 6 (by decide)]; exact ⟨m6.1, past_to (dhr_0 (by decide)) (dhr_0 (by decide)) (fun j => dhr_row (by omega) (by omega) (by omega) (by omega)) m6.2⟩
  · rw [k 46 (by decide) (by decide), k0 8 (by decide)]; exact ⟨m7.1, keep_to (dhr_0 (by decide)) (dhr_0 (by decide)) (fun j => dhr_row (by omega) (by omega) (by omega) (by omega)) m7.2⟩
  · rw [hX, up_e, dhr_5]
    omega
  · rw [dhr_5] at hj
    rw [dhr_7, dhr_8, dhr_9]
    have x4 : X 47 j = if j = dh d then 100 * x + 10 * y + z else σ 47 j := by rw [hX, up_p _ _ _ (by decide), up_j]
    rw [x4]
    by_cases c : j = dh d
    · simp only [if_pos c]
      omega
    · simp only [if_neg c]
      exact m8.2 j (by omega)
theorem ok_heard {d : Dt} {x y z : Int} (hO : OkD d) : OkD (d_heard d x y z) := by
  unfold d_heard
  by_cases c : (0 ≤ x ∧ x < (dn d : Int)) ∧ (0 ≤ y ∧ y < (dB d : Int)) ∧ 0 ≤ z ∧ z ≤ 1
  case neg => rw [if_neg c]; exact hO
  rw [if_pos c]
  by_cases c4 : dh d = 8
  · rw [if_pos c4]; exact hO
  rw [if_neg c4]
  obtain ⟨⟨a1, a2, a3, a4, a5, a6, a7, a8, a9⟩, o2, o3, o4, o5, o6, o7, o8⟩ := hO
  refine ⟨⟨a1, a2, a3, a4, a5, a6, by rw [dhr_5]; omega, a8, a9⟩, o2, o3, o4, o5, fun j hj => ?_, okp_to (dhr_0 (by decide)) (dhr_0 (by decide)) (fun j => dhr_row (by omega) (by omega) (by omega) (by omega)) o7, okk_to (dhr_0 (by decide)) (dhr_0 (by decide)) (fun j => dhr_row (by omega) (by omega) (by omega) (by omega)) o8⟩
  rw [dhr_5] at hj
  rw [dhr_7, dhr_8, dhr_9]
  have en : dn (d_heard1 d x y z) = dn d := dhr_0 (by decide)
  have eB : dB (d_heard1 d x y z) = dB d := dhr_0 (by decide)
  rw [en, eB]
  by_cases c5 : j = dh d
  · simp only [if_pos c5]
    omega
  · simp only [if_neg c5]
    exact o6 j (by omega)
