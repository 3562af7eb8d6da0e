/-! WHAT THE SURVEY ANSWERS, in the class -/
def FaD (d : Dt) : Nat := fac (dn d)
theorem FaD_le {d : Dt} (hO : OkD d) : 0 < FaD d ∧ FaD d ≤ 5040 := ⟨fac_pos _, fac_le _ hO.1.2.1⟩
def r_best (d : Dt) (x : Int) : Int := if x = -1 then (most (ntK d) (FaD d)).1 else if 0 ≤ x ∧ x < (dn d : Int) then ((pmF (dn d) (most (ntK d) (FaD d)).2 x.toNat : Nat) : Int) else -1
theorem c_best {d : Dt} {σ : Sg} {x : Int} (hO : OkD d) (hI : InvC σ d) (hx : InR x) : ∃ σ', Cal 54 [vR 0, vI x] σ = some (vI (r_best d x), σ') ∧ InvC σ' d ∧ FrC σ σ' := by
  have hn := hO.1.2.1
  have w1 : wr (-1) = -1 := by decide
  have e0 : Cal 54 [vR 0, vI x] σ = _ := q54_0 x σ
  obtain ⟨s1, a1, a2, a3, a4, a5⟩ := c_surv hO hI
  unfold r_best
  rw [wr_in hx, w1, a1, kcR_s, isI_c hI.1 hx, kcI_s] at e0
  by_cases c1 : x = -1
  · rw [if_pos c1, a3.2.2.2.1] at e0
    rw [if_pos c1]
    exact ⟨s1, e0, a4, a5⟩
  · rw [if_neg c1] at e0
    rw [if_neg c1]
    by_cases c : 0 ≤ x ∧ x < (dn d : Int)
    · rw [if_pos c, wr_1, if_neg (by decide), a1, kcR_s, if_pos (show 0 ≤ x ∧ x < 7 by omega), a3.2.2.2.2.1 (fac_pos _) _ (by omega)] at e0
      rw [if_pos c]
      exact ⟨s1, e0, a4, a5⟩
    · rw [if_neg c, wr_0, if_pos rfl] at e0
      rw [if_neg c]
      exact ⟨σ, e0, hI, FrC.rf σ⟩
def r_changes (d : Dt) : Int := fewest (fun j => whK d j == dB d) (farK d) (FaD d)
theorem c_changes {d : Dt} {σ : Sg} (hO : OkD d) (hI : InvC σ d) : ∃ σ', Cal 55 [vR 0] σ = some (vI (r_changes d), σ') ∧ InvC σ' d ∧ FrC σ σ' := by
  have e0 : Cal 55 [vR 0] σ = _ := q55_0 σ
  obtain ⟨s1, a1, a2, a3, a4, a5⟩ := c_surv hO hI
  rw [a1, kcR_s, a3.2.2.1] at e0
  exact ⟨s1, e0, a4, a5⟩
def r_alike (d : Dt) : Int := ((cnt (alK d) (FaD d) : Nat) : Int)
theorem c_alike {d : Dt} {σ : Sg} (hO : OkD d) (hI : InvC σ d) : ∃ σ', Cal 60 [vR 0] σ = some (vI (r_alike d), σ') ∧ InvC σ' d ∧ FrC σ σ' := by
  have e0 : Cal 60 [vR 0] σ = _ := q60_0 σ
  obtain ⟨s1, a1, a2, a3, a4, a5⟩ := c_surv hO hI
  rw [a1, kcR_s, a3.2.1] at e0
  exact ⟨s1, e0, a4, a5⟩
-- lowest terms
def r_low (p w : Nat) (z : Int) : Int := if z = 0 then ((p / Nat.gcd p w : Nat) : Int) else ((w / Nat.gcd p w : Nat) : Int)
theorem gcd_st (a b : Nat) : Nat.gcd b (a % b) = Nat.gcd a b := by
  rw [Nat.gcd_comm a b, Nat.gcd_rec b a, Nat.gcd_comm]
theorem c_gcd {x0 x1 x2 : Int} {σ : Sg} : ∀ (k a b i : Nat) (x6 : AV), b < 2 ^ k → a < 2147483648 → b < 2147483648 → i + 2 * k ≤ 64 → ∃ (u v : Int) (w : AV), Run 61 8 [vI x0, vI x1, vI x2, vI a, vI b, vI i, x6] [] σ = Run 61 39 [vI x0, vI x1, vI x2, vI ((Nat.gcd a b : Nat) : Int), vI u, vI v, w] [] σ
  | 0, a, b, i, x6, hb, ha, hb2, hi => by
    have b0 : b = 0 := by
      have : (2 : Nat) ^ 0 = 1 := rfl
      omega
    refine ⟨b, i, x6, ?_⟩
    rw [q61_8, b0, Nat.gcd_zero_right]
    have e : wr ((0 : Nat) : Int) = 0 := by decide
    rw [e, if_neg (show ¬ (0 : Int) < 0 by decide)]
    split <;> rfl
  | k + 1, a, b, i, x6, hb, ha, hb2, hi => by
    have w64 : wr 64 = 64 := by decide
    rcases Nat.eq_zero_or_pos b with b0 | b0
    · refine ⟨b, i, x6, ?_⟩
      rw [q61_8, b0, Nat.gcd_zero_right]
      have e : wr ((0 : Nat) : Int) = 0 := by decide
      rw [e, if_neg (show ¬ (0 : Int) < 0 by decide)]
      split <;> rfl
    · have e0 := q61_8 x0 x1 x2 (a : Int) (b : Int) (i : Int) x6 σ
      have l1 := Nat.mod_lt a b0
      rw [wr_id (x := (i : Int)) (by omega) (by omega), wr_id (x := (b : Int)) (by omega) (by omega), w64, if_pos (show (i : Int) < 64 by omega), if_pos (show (0 : Int) < (b : Int) by omega), if_neg (show ¬ (b : Int) = 0 by omega), irm_n a b (by omega) (by omega)] at e0
      rcases Nat.eq_zero_or_pos (a % b) with r0 | r0
      · refine ⟨0, (i : Int) + 1, vI ((a % b : Nat) : Int), e0.trans ?_⟩
        rw [← gcd_st a b, r0, Nat.gcd_zero_right, q61_8]
        have e : wr ((0 : Nat) : Int) = 0 := by decide
        rw [e, if_neg (show ¬ (0 : Int) < 0 by decide)]
        split <;> rfl
      · have e1 := q61_8 x0 x1 x2 (b : Int) ((a % b : Nat) : Int) ((i + 1 : Nat) : Int) (vI ((a % b : Nat) : Int)) σ
        have l2 := Nat.mod_lt b r0
        have l3 : 2 * (b % (a % b)) < b := by
          have h1 := Nat.div_add_mod b (a % b)
          have h2 : 1 ≤ b / (a % b) := (Nat.le_div_iff_mul_le r0).mpr (by omega)
          have h3 : (a % b) * 1 ≤ (a % b) * (b / (a % b)) := Nat.mul_le_mul (Nat.le_refl _) h2
          omega
        rw [wr_id (x := ((i + 1 : Nat) : Int)) (by omega) (by omega), wr_id (x := ((a % b : Nat) : Int)) (by omega) (by omega), w64, if_pos (show ((i + 1 : Nat) : Int) < 64 by omega), if_pos (show (0 : Int) < ((a % b : Nat) : Int) by omega), if_neg (show ¬ ((a % b : Nat) : Int) = 0 by omega), irm_n b (a % b) (by omega) (by omega)] at e1
        have hp : 2 ^ (k + 1) = 2 * 2 ^ k := by rw [Nat.pow_succ, Nat.mul_comm]
        obtain ⟨u, v, w, ih⟩ := c_gcd (x0 := x0) (x1 := x1) (x2 := x2) (σ := σ) k (a % b) (b % (a % b)) (i + 2) (vI ((b % (a % b) : Nat) : Int)) (by omega) (by omega) (by omega) (by omega)
        refine ⟨u, v, w, e0.trans (e1.trans (Eq.trans ?_ (ih.trans ?_)))⟩
        · rfl
        · rw [gcd_st, gcd_st]
theorem c_low {p w : Nat} {z : Int} {σ : Sg} (hp : p ≤ 5040) (hw : w ≤ 5040) (hw0 : 0 < w) (hz : InR z) : Cal 61 [vI p, vI w, vI z] σ = some (vI (r_low p w z), σ) := by
  have e0 : Cal 61 [vI p, vI w, vI z] σ = _ := q61_0 (p : Int) (w : Int) z σ
  obtain ⟨u, v, w6, h1⟩ := c_gcd (x0 := (p : Int)) (x1 := (w : Int)) (x2 := z) (σ := σ) 13 w p 0 vJ (by omega) (by omega) (by omega) (by decide)
  have h1' : Run 61 8 [vI p, vI w, vI z, vI w, vI p, vI 0, vJ] [] σ = _ := h1
  rw [e0, h1', q61_39, Nat.gcd_comm w p, wr_1, wr_in hz]
  have g0 := Nat.gcd_pos_of_pos_right p hw0
  have g1 := Nat.gcd_le_right p hw0
  have i1 := idv_n p (Nat.gcd p w) (by omega) (by omega)
  have i2 := idv_n w (Nat.gcd p w) (by omega) (by omega)
  unfold r_low
  generalize Nat.gcd p w = g at *
  rw [wr_id (x := (g : Int)) (by omega) (by omega), if_neg (show ¬ (g : Int) < 1 by omega), i1, i2]
  by_cases c : z = 0
  · rw [if_pos c, if_pos c, if_neg (by omega)]
  · rw [if_neg c, if_neg c, if_neg (by omega)]
def r_odds (d : Dt) (x : Int) : Int := if 0 ≤ x ∧ x ≤ 1 then r_low (cnt (fun j => whK d j == dB d) (FaD d)) (FaD d) x else -1
theorem c_odds {d : Dt} {σ : Sg} {x : Int} (hO : OkD d) (hI : InvC σ d) (hx : InR x) : ∃ σ', Cal 62 [vR 0, vI x] σ = some (vI (r_odds d x), σ') ∧ InvC σ' d ∧ FrC σ σ' := by
  have e0 : Cal 62 [vR 0, vI x] σ = _ := q62_0 x σ
  obtain ⟨s1, a1, a2, a3, a4, a5⟩ := c_surv hO hI
  have lF := FaD_le hO
  have lc := cnt_le (fun j => whK d j == dB d) (FaD d)
  have a3' : s1 29 2 = ((cnt (fun j => whK d j == dB d) (FaD d) : Nat) : Int) := a3.1
  have a2' : s1 29 1 = ((FaD d : Nat) : Int) := a2
  unfold r_odds
  rw [wr_in hx, wr_1, a1, kcR_s, a3', a2', c_low (by omega) (by omega) lF.1 hx, kcI_s] at e0
  by_cases c : 0 ≤ x ∧ x ≤ 1
  · rw [if_neg (show ¬ x < 0 by omega), if_neg (show ¬ 1 < x by omega)] at e0
    rw [if_pos c]
    exact ⟨s1, e0, a4, a5⟩
  · rw [if_neg c]
    refine ⟨σ, e0.trans ?_, hI, FrC.rf σ⟩
    by_cases c0 : x < 0
    · rw [if_pos c0]
    · rw [if_neg c0, if_pos (by omega)]
theorem cnt_add {P Q R : Nat → Bool} (h : ∀ j, (if R j = true then 1 else 0) = (if P j = true then 1 else 0) + (if Q j = true then 1 else 0)) : ∀ k, cnt R k = cnt P k + cnt Q k
  | 0 => rfl
  | k + 1 => by
    have ih := cnt_add h k
    have hk := h k
    unfold cnt
    omega
theorem cnt_congr {P Q : Nat → Bool} (h : ∀ j, P j = Q j) (k : Nat) : cnt P k = cnt Q k := by
  rw [show P = Q from funext h]
/-- seatings of at least x notes, of less than v -/
def atB (d : Dt) (x v : Nat) : Nat := cnt (fun j => decide (x ≤ ntK d j) && decide (ntK d j < v)) (FaD d)
theorem atB_0 (d : Dt) (x : Nat) : atB d x x = 0 := by
  unfold atB
  have h : ∀ k, cnt (fun j => decide (x ≤ ntK d j) && decide (ntK d j < x)) k = 0 := by
    intro k
    induction k with
    | zero => rfl
    | succ k ih =>
      unfold cnt
      rw [ih, if_neg (by simp only [Bool.and_eq_true, decide_eq_true_eq]; omega)]
  exact h _
theorem atB_1 (d : Dt) {x v : Nat} (h : x ≤ v) : atB d x (v + 1) = atB d x v + cnt (fun j => ntK d j == v) (FaD d) := by
  unfold atB
  refine cnt_add (fun j => ?_) _
  simp only [Bool.and_eq_true, decide_eq_true_eq, beq_iff_eq]
  by_cases c1 : ntK d j = v
  · rw [if_pos (by omega), if_neg (by omega), if_pos c1]
  · by_cases c2 : x ≤ ntK d j ∧ ntK d j < v
    · rw [if_pos (by omega), if_pos c2, if_neg c1]
    · rw [if_neg (by omega), if_neg c2, if_neg c1]
theorem atB_57 {d : Dt} (hO : OkD d) (x : Nat) : atB d x 57 = cnt (fun j => decide (x ≤ ntK d j)) (FaD d) := by
  unfold atB
  refine cnt_congr (fun j => ?_) _
  have := ntK_le hO j
  rw [show decide (ntK d j < 57) = true from by simp; omega, Bool.and_true]
def r_atLeast (d : Dt) (x y : Int) : Int := if (0 ≤ x ∧ x ≤ 56) ∧ 0 ≤ y ∧ y ≤ 1 then r_low (cnt (fun j => decide (x.toNat ≤ ntK d j)) (FaD d)) (FaD d) y else -1
theorem c_atl_loop {d : Dt} {x : Nat} {y : Int} {σ : Sg} (hO : OkD d) (hx : x ≤ 56) (hy : InR y) (h1 : σ 29 1 = ((FaD d : Nat) : Int)) (h2 : ∀ v, v ≤ 56 → σ 31 v = ((cnt (fun j => ntK d j == v) (FaD d) : Nat) : Int)) : ∀ (r v : Nat), v + r = 57 → x ≤ v → Run 63 32 [vR 0, vI x, vI y, vR 29, vI ((atB d x v : Nat) : Int), vI v] [] σ = some (vI (r_low (cnt (fun j => decide (x ≤ ntK d j)) (FaD d)) (FaD d) y), σ)
  | 0, v, h, hv => by
    have e : v = 57 := by omega
    have w56 : wr 56 = 56 := by decide
    have lF := FaD_le hO
    have lc := cnt_le (fun j => decide (x ≤ ntK d j)) (FaD d)
    rw [q63_32, wr_id (x := (v : Int)) (by omega) (by omega), w56, if_pos (show (56 : Int) < (v : Int) by omega), h1, e, atB_57 hO, c_low (by omega) (by omega) lF.1 hy, kcI_s]
  | r + 1, v, h, hv => by
    have w56 : wr 56 = 56 := by decide
    have t1 := c_atl_loop hO hx hy h1 h2 r (v + 1) (by omega) (by omega)
    have a6 := h2 v (by omega)
    have e3 : ((atB d x v : Nat) : Int) + ((cnt (fun j => ntK d j == v) (FaD d) : Nat) : Int) = ((atB d x (v + 1) : Nat) : Int) := by
      rw [atB_1 d hv, Int.natCast_add]
    rw [q63_32, wr_id (x := (v : Int)) (by omega) (by omega), w56, if_neg (show ¬ (56 : Int) < (v : Int) by omega), if_pos (show 0 ≤ (v : Int) ∧ (v : Int) < 57 by omega), toN, a6, e3]
    exact t1
theorem c_atLeast {d : Dt} {σ : Sg} {x y : Int} (hO : OkD d) (hI : InvC σ d) (hx : InR x) (hy : InR y) : ∃ σ', Cal 63 [vR 0, vI x, vI y] σ = some (vI (r_atLeast d x y), σ') ∧ InvC σ' d ∧ FrC σ σ' := by
  have w56 : wr 56 = 56 := by decide
  have e0 : Cal 63 [vR 0, vI x, vI y] σ = _ := q63_0 x y σ
  rw [wr_in hx, wr_in hy, wr_1, w56] at e0
  unfold r_atLeast
  by_cases c : (0 ≤ x ∧ x ≤ 56) ∧ 0 ≤ y ∧ y ≤ 1
  · rw [if_neg (show ¬ x < 0 by omega), if_neg (show ¬ 56 < x by omega), if_neg (show ¬ y < 0 by omega), if_neg (show ¬ 1 < y by omega)] at e0
    rw [if_pos c]
    obtain ⟨s1, a1, a2, a3, a4, a5⟩ := c_surv hO hI
    rw [a1, kcR_s] at e0
    have t1 := c_atl_loop (x := x.toNat) hO (by omega) hy a2 (fun v hv => a3.2.2.2.2.2 v hv) (57 - x.toNat) x.toNat (by omega) (Nat.le_refl _)
    rw [atB_0, show ((x.toNat : Nat) : Int) = x by omega] at t1
    exact ⟨s1, e0.trans t1, a4, a5⟩
  · rw [if_neg c]
    refine ⟨σ, e0.trans ?_, hI, FrC.rf σ⟩
    by_cases c0 : x < 0
    · rw [if_pos c0]
    · rw [if_neg c0]
      by_cases c1 : 56 < x
      · rw [if_pos c1]
      · rw [if_neg c1]
        by_cases c2 : y < 0
        · rw [if_pos c2]
        · rw [if_neg c2, if_pos (by omega)]
