/-! tour, to its end: the class, the reference -/
theorem c_tour {d : Dt} {σ : Sg} {x y z : Int} (hO : OkD d) (hI : InvC σ d) (hx : InR x) (hy : InR y) (hz : InR z) : ∃ σ', Cal 70 [vR 0, vI x, vI y, vI z] σ = some (vI (r_tour d x y z), σ') ∧ InvC σ' d ∧ FrC σ σ' := by
  have hn := hO.1.2.1
  have hn0 := hO.1.1
  have w7 : wr 7 = 7 := by decide
  have w9 : wr 9999 = 9999 := by decide
  have w20 : wr 20 = 20 := by decide
  have e0 : Cal 70 [vR 0, vI x, vI y, vI z] σ = _ := q70_0 x y z σ
  unfold r_tour
  rw [wr_in hx, wr_in hy, wr_in hz, wr_1, wr_0, w7, w9, w20, show (7 : Int).toNat = 7 from rfl, Int.toNat_zero, hI.1.1.1] at e0
  by_cases c : (0 ≤ x ∧ x ≤ 9999) ∧ (1 ≤ y ∧ y ≤ 20) ∧ 0 ≤ z ∧ z ≤ 1
  · obtain ⟨X, hX⟩ : ∃ X, X = cpy σ 1 0 2 0 7 := ⟨_, rfl⟩
    have e3 : (if (1 : Int) < wr (dn d : Int) then (dn d : Int) else 1) = (dn d : Int) := by
      rw [wr_id (x := (dn d : Int)) (by omega) (by omega)]
      split <;> omega
    rw [if_neg (show ¬ x < 0 by omega), if_neg (show ¬ 9999 < x by omega), if_neg (show ¬ y < 1 by omega), if_neg (show ¬ 20 < y by omega), if_neg (show ¬ z < 0 by omega), if_neg (show ¬ 1 < z by omega), if_pos (by decide), e3, ← hX] at e0
    rw [if_pos c]
    have kX : ∀ q, q ≠ 2 → X q = σ q := fun q hq => by rw [hX, cpy_ne hq]
    have hI1 : InvC X d := hI.kx (fun q hq _ => kX q hq)
    have hR : Rep X 2 (dn d) (trS d x.toNat 0) := fun i hi => by
      rw [hX]
      unfold cpy
      rw [if_pos (by omega), Nat.zero_add, Nat.sub_zero]
      exact hI.2.1.1 i hi
    obtain ⟨s2, u1, u2, u3⟩ := c_tour_loop (x := x.toNat) (y := y.toNat) hO (by omega) (by omega) hz y.toNat 0 vJ X (by omega) hI1 hR
    have ex : ((x.toNat : Nat) : Int) = x := by omega
    have ey : ((y.toNat : Nat) : Int) = y := by omega
    rw [ex, ey] at u1
    exact ⟨s2, e0.trans u1, u2, fun q hq => by rw [u3 q hq, kX q (by omega)]⟩
  · rw [if_neg c]
    refine ⟨σ, e0.trans ?_, hI, FrC.rf σ⟩
    by_cases c0 : x < 0
    · rw [if_pos c0]
    · rw [if_neg c0]
      by_cases c1 : 9999 < x
      · rw [if_pos c1]
      · rw [if_neg c1]
        by_cases c2 : y < 1
        · rw [if_pos c2]
        · rw [if_neg c2]
          by_cases c3 : 20 < y
          · rw [if_pos c3]
          · rw [if_neg c3]
            by_cases c4 : z < 0
            · rw [if_pos c4]
            · rw [if_neg c4, if_pos (by omega)]
theorem m_tour_loop {d : Dt} {x y : Nat} {z : Int} (hO : OkD d) (hx : x ≤ 9999) (hy : y ≤ 20) (hz : InR z) : ∀ (r t : Nat) (x7 x9 : AV) (σ : Sg), t + r = y → InvM σ d → GoIn σ (dn d) (d 1) (trS d x t) (dg d) (db d) 0 → ∃ σ', Run 127 45 [vR 40, vI x, vI y, vI z, vI ((trW d x t : Nat) : Int), vI ((trM d x t : Nat) : Int), vI t, x7, vJ, x9] [] σ = some (vI (if z = 0 then ((trW d x y : Nat) : Int) else ((trM d x y : Nat) : Int)), σ') ∧ InvM σ' d ∧ FrM σ σ'
  | 0, t, x7, x9, σ, h, hM, hG => by
    have ht : t = y := by omega
    refine ⟨σ, ?_, hM, FrM.rf σ⟩
    rw [q127_45, if_neg (by rw [wr_id (by omega) (by omega), wr_id (by omega) (by omega)]; omega), wr_in hz, ht]
    by_cases c : z = 0
    · rw [if_pos c, if_pos c]
    · rw [if_neg c, if_neg c]
  | r + 1, t, x7, x9, σ, h, hM, hG => by
    have hn := hO.1.2.1
    have hn0 := hO.1.1
    have hB8 := hO.1.2.2.1
    have w8 : wr 8 = 8 := by decide
    have w4 : wr 4 = 4 := by decide
    have wL : wl 65521 = 65521 := by decide
    have ld := drw_lt x t
    have la := Nat.mod_lt (drw x t) hn0
    have lb := Nat.mod_lt (drw x t / 8) hn0
    have i1 := irm_n (drw x t) (dn d) (by omega) (by omega)
    have i2 : idv ((drw x t : Nat) : Int) 8 = ((drw x t / 8 : Nat) : Int) := idv_n (drw x t) 8 (by omega) (by decide)
    have i3 := irm_n (drw x t / 8) (dn d) (by omega) (by omega)
    have hs : 7919 * x + 6151 * t + 1 ≤ 79300000 := by omega
    have hm : (7919 * x + 6151 * t + 1) * (7919 * x + 6151 * t + 1) ≤ 79300000 * 79300000 := Nat.mul_le_mul hs hs
    have f1 : ((7919 * (x : Int) + 6151 * (t : Int)) + 1) * ((7919 * (x : Int) + 6151 * (t : Int)) + 1) = (((7919 * x + 6151 * t + 1) * (7919 * x + 6151 * t + 1) : Nat) : Int) := by
      rw [Int.natCast_mul]
      rfl
    have f2 : lrm (((7919 * x + 6151 * t + 1) * (7919 * x + 6151 * t + 1) : Nat) : Int) 65521 = _ := lrm_n ((7919 * x + 6151 * t + 1) * (7919 * x + 6151 * t + 1)) 65521 (by omega) (by decide)
    have f3 : idv (((7919 * x + 6151 * t + 1) * (7919 * x + 6151 * t + 1) % 65521 : Nat) : Int) 4 = ((drw x t : Nat) : Int) := idv_n ((7919 * x + 6151 * t + 1) * (7919 * x + 6151 * t + 1) % 65521) 4 (by omega) (by decide)
    have e0 := q127_45 (x : Int) (y : Int) z ((trW d x t : Nat) : Int) ((trM d x t : Nat) : Int) (t : Int) x7 x9 σ
    rw [wr_id (x := (t : Int)) (by omega) (by omega), wr_id (x := (x : Int)) (by omega) (by omega), wr_id (x := (y : Int)) (by omega) (by omega), if_pos (show (t : Int) < (y : Int) by omega), f1, f2, f3, wL, w4, w8, wr_0, wr_1, if_neg (by decide), if_neg (by decide), Int.toNat_zero, if_pos (by decide), hM.1.1, wr_id (x := (dn d : Int)) (by omega) (by omega), if_neg (show ¬ (dn d : Int) = 0 by omega), if_neg (by decide), if_pos (by decide), if_neg (show ¬ (dn d : Int) = 0 by omega), i1, i2, i3, swp_m (by omega) (by omega), kcV_s] at e0
    have hR : Rep σ 48 (dn d) (trS d x t) := hG.1
    obtain ⟨X, hX⟩ : ∃ X, X = up (up σ 48 (drw x t % dn d) (σ 48 (drw x t / 8 % dn d))) 48 (drw x t / 8 % dn d) (σ 48 (drw x t % dn d)) := ⟨_, rfl⟩
    have hR1 : Rep X 48 (dn d) (trS d x (t + 1)) := by rw [hX]; exact hR.sw la lb
    rw [← hX] at e0
    have kX : ∀ q, q ≠ 48 → X q = σ q := fun q hq => by rw [hX, up_ne hq, up_ne hq]
    obtain ⟨s2, r1, r2, r3, r4, r5, r6⟩ := m_even hO (hM.k48 kX) (hG.seats hR1 kX) (trS_perm hO x (t + 1))
    have lw := whX_le d (trS d x (t + 1)) (dg d) (db d) 0
    have ln := ntX_le d (trS d x (t + 1)) (dg d) (db d) 0
    have lW := trW_le d x t
    have lM := trM_le hO x t
    rw [r1, kcI_s, if_pos (by decide), show (1 : Int).toNat = 1 from rfl, r4.1.2.2.1, wr_id (x := ((whX d (trS d x (t + 1)) (dg d) (db d) 0 : Nat) : Int)) (by omega) (by omega), wr_id (x := (dB d : Int)) (by omega) (by omega)] at e0
    obtain ⟨σ', t1, t2, t3⟩ := m_tour_loop hO hx hy hz r (t + 1) (vL ((7919 * (x : Int) + 6151 * (t : Int)) + 1)) (vI ((drw x t : Nat) : Int)) s2 (by omega) r4 r3
    refine ⟨σ', e0.trans (Eq.trans ?_ t1), t2, fun q hq => by rw [t3 q hq, r5 q (by omega) (by omega) (by omega), kX q (by omega)]⟩
    have key : ∀ w : Int, ((trW d x t : Nat) : Int) + w = ((trW d x (t + 1) : Nat) : Int) → Run 127 128 [vR 40, vI x, vI y, vI z, vI ((trW d x t : Nat) : Int), vI ((trM d x t : Nat) : Int), vI t, vL ((7919 * (x : Int) + 6151 * (t : Int)) + 1), vJ, vI ((drw x t : Nat) : Int)] [vI w, vI ((trW d x t : Nat) : Int)] s2 = Run 127 45 [vR 40, vI x, vI y, vI z, vI ((trW d x (t + 1) : Nat) : Int), vI ((trM d x (t + 1) : Nat) : Int), vI ((t + 1 : Nat) : Int), vL ((7919 * (x : Int) + 6151 * (t : Int)) + 1), vJ, vI ((drw x t : Nat) : Int)] [] s2 := fun w hw => by
      have eM : ((trM d x (t + 1) : Nat) : Int) = (if ((trM d x t : Nat) : Int) < ((ntX d (trS d x (t + 1)) (dg d) (db d) 0 : Nat) : Int) then ((ntX d (trS d x (t + 1)) (dg d) (db d) 0 : Nat) : Int) else ((trM d x t : Nat) : Int)) := by
        show (((if _ then _ else _ : Nat)) : Int) = _
        by_cases c : trM d x t < ntX d (trS d x (t + 1)) (dg d) (db d) 0
        · rw [if_pos c, if_pos (by omega)]
        · rw [if_neg c, if_neg (by omega)]
      rw [q127_128, hw, r2, wr_id (x := ((trM d x t : Nat) : Int)) (by omega) (by omega), wr_id (x := ((ntX d (trS d x (t + 1)) (dg d) (db d) 0 : Nat) : Int)) (by omega) (by omega), eM]
      by_cases c : ((trM d x t : Nat) : Int) < ((ntX d (trS d x (t + 1)) (dg d) (db d) 0 : Nat) : Int)
      · rw [if_pos c, if_pos c]
        rfl
      · rw [if_neg c, if_neg c]
        rfl
    by_cases c : whX d (trS d x (t + 1)) (dg d) (db d) 0 = dB d
    · rw [if_pos (by omega)]
      exact key 1 (by
        show _ = (((trW d x t + _ : Nat)) : Int)
        rw [if_pos c]; rfl)
    · rw [if_neg (by omega)]
      exact key 0 (by
        show _ = (((trW d x t + _ : Nat)) : Int)
        rw [if_neg c]; rfl)
theorem m_tour {d : Dt} {σ : Sg} {x y z : Int} (hO : OkD d) (hM : InvM σ d) (hx : InR x) (hy : InR y) (hz : InR z) : ∃ σ', Cal 127 [vR 40, vI x, vI y, vI z] σ = some (vI (r_tour d x y z), σ') ∧ InvM σ' d ∧ FrM σ σ' := by
  have e0 : Cal 127 [vR 40, vI x, vI y, vI z] σ = _ := q127_0 x y z σ
  have e1 : Cal 79 [vI x, vI 0, vI 9999] σ = some (vI (if 0 ≤ x ∧ x ≤ 9999 then 1 else 0), σ) := in_m hx ⟨by omega, by omega⟩ ⟨by omega, by omega⟩
  have e2 : Cal 79 [vI y, vI 1, vI 20] σ = some (vI (if 1 ≤ y ∧ y ≤ 20 then 1 else 0), σ) := in_m hy ⟨by omega, by omega⟩ ⟨by omega, by omega⟩
  have e3 : Cal 79 [vI z, vI 0, vI 1] σ = some (vI (if 0 ≤ z ∧ z ≤ 1 then 1 else 0), σ) := in_m hz ⟨by omega, by omega⟩ ⟨by omega, by omega⟩
  rw [e1, kcI_s] at e0
  unfold r_tour
  by_cases c1 : 0 ≤ x ∧ x ≤ 9999
  · rw [if_pos c1, wr_1, if_neg (by decide), e2, kcI_s] at e0
    by_cases c2 : 1 ≤ y ∧ y ≤ 20
    · rw [if_pos c2, wr_1, if_neg (by decide), e3, kcI_s] at e0
      by_cases c3 : 0 ≤ z ∧ z ≤ 1
      · obtain ⟨s1, a1, a2, a3, a4⟩ := asit hO hM
        rw [if_pos c3, wr_1, if_neg (by decide), a1, kcV_s] at e0
        obtain ⟨s2, u1, u2, u3⟩ := m_tour_loop (x := x.toNat) (y := y.toNat) hO (by omega) (by omega) hz y.toNat 0 vJ vJ s1 (by omega) a4 a3
        have ex : ((x.toNat : Nat) : Int) = x := by omega
        have ey : ((y.toNat : Nat) : Int) = y := by omega
        rw [ex, ey] at u1
        rw [if_pos ⟨c1, c2, c3⟩]
        exact ⟨s2, e0.trans u1, u2, fun q hq => by rw [u3 q hq, a2 q (by omega) (by omega) (by omega)]⟩
      · rw [if_neg c3, wr_0, if_pos rfl] at e0
        rw [if_neg (fun h => c3 h.2.2)]
        exact ⟨σ, e0, hM, FrM.rf σ⟩
    · rw [if_neg c2, wr_0, if_pos rfl] at e0
      rw [if_neg (fun h => c2 h.2.1)]
      exact ⟨σ, e0, hM, FrM.rf σ⟩
  · rw [if_neg c1, wr_0, if_pos rfl] at e0
    rw [if_neg (fun h => c1 h.1)]
    exact ⟨σ, e0, hM, FrM.rf σ⟩
