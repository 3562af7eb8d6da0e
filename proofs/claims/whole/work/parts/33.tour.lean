/-! tour, in the class -/
def trS (d : Dt) (x : Nat) : Nat → Nat → Nat
  | 0 => d 5
  | t + 1 => swF (trS d x t) (drw x t % dn d) (drw x t / 8 % dn d)
def trW (d : Dt) (x : Nat) : Nat → Nat
  | 0 => 0
  | t + 1 => trW d x t + (if whX d (trS d x (t + 1)) (dg d) (db d) 0 = dB d then 1 else 0)
def trM (d : Dt) (x : Nat) : Nat → Nat
  | 0 => 0
  | t + 1 => if trM d x t < ntX d (trS d x (t + 1)) (dg d) (db d) 0 then ntX d (trS d x (t + 1)) (dg d) (db d) 0 else trM d x t
theorem trS_perm {d : Dt} (hO : OkD d) (x : Nat) : ∀ t, PermS (dn d) (trS d x t)
  | 0 => hO.2.2.2.1
  | t + 1 => swF_perm (trS_perm hO x t) (Nat.mod_lt _ hO.1.1) (Nat.mod_lt _ hO.1.1)
theorem trW_le (d : Dt) (x : Nat) : ∀ t, trW d x t ≤ t
  | 0 => Nat.le_refl _
  | t + 1 => by
    have := trW_le d x t
    unfold trW
    split <;> omega
theorem trM_le {d : Dt} (hO : OkD d) (x : Nat) : ∀ t, trM d x t ≤ 64
  | 0 => Nat.zero_le _
  | t + 1 => by
    have h8 := hO.1.2.2.1
    have h1 := trM_le hO x t
    have h2 := ntX_le d (trS d x (t + 1)) (dg d) (db d) 0
    unfold trM
    split <;> omega
theorem draw_n {σ : Sg} {x t : Nat} (hx : x ≤ 9999) (ht : t < 20) : Cal 69 [vI x, vI t] σ = some (vI ((drw x t : Nat) : Int), σ) := by
  have e0 : Cal 69 [vI x, vI t] σ = _ := q69_0 (x : Int) (t : Int) σ
  have hs : 7919 * x + 6151 * t + 1 ≤ 79300000 := by omega
  have hm : (7919 * x + 6151 * t + 1) * (7919 * x + 6151 * t + 1) ≤ 79300000 * 79300000 := Nat.mul_le_mul hs hs
  have e1 : ((7919 * (x : Int) + 6151 * (t : Int)) + 1) * ((7919 * (x : Int) + 6151 * (t : Int)) + 1) = (((7919 * x + 6151 * t + 1) * (7919 * x + 6151 * t + 1) : Nat) : Int) := by
    rw [Int.natCast_mul]
    rfl
  have e2 := lrm_n ((7919 * x + 6151 * t + 1) * (7919 * x + 6151 * t + 1)) 65521 (by omega) (by decide)
  have e3 := ldv_n ((7919 * x + 6151 * t + 1) * (7919 * x + 6151 * t + 1) % 65521) 4 (by omega) (by decide)
  rw [wr_id (x := (x : Int)) (by omega) (by omega), wr_id (x := (t : Int)) (by omega) (by omega), if_neg (by decide), if_neg (by decide), e1] at e0
  have e2' : lrm (((7919 * x + 6151 * t + 1) * (7919 * x + 6151 * t + 1) : Nat) : Int) 65521 = _ := e2
  rw [e2'] at e0
  have e3' : ldv (((7919 * x + 6151 * t + 1) * (7919 * x + 6151 * t + 1) % 65521 : Nat) : Int) 4 = _ := e3
  rw [e3'] at e0
  exact e0
def r_tour (d : Dt) (x y z : Int) : Int := if (0 ≤ x ∧ x ≤ 9999) ∧ (1 ≤ y ∧ y ≤ 20) ∧ 0 ≤ z ∧ z ≤ 1 then (if z = 0 then ((trW d x.toNat y.toNat : Nat) : Int) else ((trM d x.toNat y.toNat : Nat) : Int)) else -1
theorem c_tour_loop {d : Dt} {x y : Nat} {z : Int} (hO : OkD d) (hx : x ≤ 9999) (hy : y ≤ 20) (hz : InR z) : ∀ (r t : Nat) (x8 : AV) (σ : Sg), t + r = y → InvC σ d → Rep σ 2 (dn d) (trS d x t) → ∃ σ', Run 70 73 [vR 0, vI x, vI y, vI z, vI (dn d), vI ((trW d x t : Nat) : Int), vI ((trM d x t : Nat) : Int), vI t, x8] [] σ = some (vI (if z = 0 then ((trW d x y : Nat) : Int) else ((trM d x y : Nat) : Int)), σ') ∧ InvC σ' d ∧ FrC σ σ'
  | 0, t, x8, σ, h, hI, hR => by
    have ht : t = y := by omega
    refine ⟨σ, ?_, hI, FrC.rf σ⟩
    rw [q70_73, if_neg (by rw [wr_id (by omega) (by omega), wr_id (by omega) (by omega)]; omega), wr_in hz, ht]
    by_cases c : z = 0
    · rw [if_pos c, if_pos c]
    · rw [if_neg c, if_neg c]
  | r + 1, t, x8, σ, h, hI, hR => by
    have hn := hO.1.2.1
    have hn0 := hO.1.1
    have hg := hO.1.2.2.2.1
    have hB8 := hO.1.2.2.1
    have w8 : wr 8 = 8 := by decide
    have ld := drw_lt x t
    have la := Nat.mod_lt (drw x t) hn0
    have lb := Nat.mod_lt (drw x t / 8) hn0
    have i1 := irm_n (drw x t) (dn d) (by omega) (by omega)
    have i2 : idv ((drw x t : Nat) : Int) 8 = ((drw x t / 8 : Nat) : Int) := idv_n (drw x t) 8 (by omega) (by decide)
    have i3 := irm_n (drw x t / 8) (dn d) (by omega) (by omega)
    have e0 := q70_73 (x : Int) (y : Int) z (dn d : Int) ((trW d x t : Nat) : Int) ((trM d x t : Nat) : Int) (t : Int) x8 σ
    rw [wr_id (x := (t : Int)) (by omega) (by omega), wr_id (x := (y : Int)) (by omega) (by omega), if_pos (show (t : Int) < (y : Int) by omega), draw_n hx (by omega), kcI_s, wr_id (x := (dn d : Int)) (by omega) (by omega), w8, if_neg (show ¬ (dn d : Int) = 0 by omega), if_neg (by decide), if_neg (show ¬ (dn d : Int) = 0 by omega), i1, i2, i3, swp_c (Or.inr (Or.inl rfl)) (by omega) (by omega), kcV_s] at e0
    obtain ⟨X, hX⟩ : ∃ X, X = up (up σ 2 (drw x t % dn d) (σ 2 (drw x t / 8 % dn d))) 2 (drw x t / 8 % dn d) (σ 2 (drw x t % dn d)) := ⟨_, rfl⟩
    have hR1 : Rep X 2 (dn d) (trS d x (t + 1)) := by rw [hX]; exact hR.sw la lb
    rw [← hX] at e0
    have kX : ∀ q, q ≠ 2 → X q = σ q := fun q hq => by rw [hX, up_ne hq, up_ne hq]
    have hI1 : InvC X d := hI.kx (fun q hq _ => kX q hq)
    obtain ⟨s2, r1, r2, r3, r4⟩ := c_even0 (g := dg d) hO hI1.1 (Or.inr (Or.inl rfl)) (by omega) hO.1.2.2.2.2.1 (trS_perm hO x (t + 1)) hR1
    have hI2 : InvC s2 d := hI1.kx (fun q _ hq => r2 q (by omega) (by omega) (by omega))
    have lw := whX_le d (trS d x (t + 1)) (dg d) (db d) 0
    have ln := ntX_le d (trS d x (t + 1)) (dg d) (db d) 0
    have lW := trW_le d x t
    have lM := trM_le hO x t
    rw [hI1.1.2.2, hI1.2.1.2, r1, kcV_s, r4, hI2.1.1.2.2.1, wr_id (x := ((whX d (trS d x (t + 1)) (dg d) (db d) 0 : Nat) : Int)) (by omega) (by omega), wr_id (x := (dB d : Int)) (by omega) (by omega)] at e0
    obtain ⟨σ', t1, t2, t3⟩ := c_tour_loop hO hx hy hz r (t + 1) (vI ((drw x t : Nat) : Int)) s2 (by omega) hI2 (hR1.kept (r2 2 (by decide) (by decide) (by decide)))
    refine ⟨σ', e0.trans (Eq.trans ?_ t1), t2, fun q hq => by rw [t3 q hq, r2 q (by omega) (by omega) (by omega), kX q (by omega)]⟩
    have eM : (if wr ((trM d x t : Nat) : Int) < wr (s2 37 2) then s2 37 2 else ((trM d x t : Nat) : Int)) = ((trM d x (t + 1) : Nat) : Int) := by
      rw [r3, wr_id (x := ((trM d x t : Nat) : Int)) (by omega) (by omega), wr_id (x := ((ntX d (trS d x (t + 1)) (dg d) (db d) 0 : Nat) : Int)) (by omega) (by omega)]
      show _ = (((if _ then _ else _ : Nat)) : Int)
      by_cases c : trM d x t < ntX d (trS d x (t + 1)) (dg d) (db d) 0
      · rw [if_pos (by omega), if_pos c]
      · rw [if_neg (by omega), if_neg c]
    by_cases c : whX d (trS d x (t + 1)) (dg d) (db d) 0 = dB d
    · have eW : ((trW d x t : Nat) : Int) + 1 = ((trW d x (t + 1) : Nat) : Int) := by
        show _ = (((trW d x t + _ : Nat)) : Int)
        rw [if_pos c]; rfl
      rw [if_pos (by omega), q70_159, eM, eW]
      rfl
    · have eW : ((trW d x t : Nat) : Int) + 0 = ((trW d x (t + 1) : Nat) : Int) := by
        show _ = (((trW d x t + _ : Nat)) : Int)
        rw [if_neg c]; rfl
      rw [if_neg (by omega), q70_159, eM, eW]
      rfl
