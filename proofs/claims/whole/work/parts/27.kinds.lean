/-! kinds -/
def agP (d : Dt) (a : Nat) (P : Nat → Nat) (j : Nat) : Bool := d 7 j != a || ((P (d 8 j)).testBit a == (d 9 j == 1))
def ag (d : Dt) (a : Nat) (P : Nat → Nat) : Nat → Bool
  | 0 => true
  | m + 1 => ag d a P m && agP d a P m
theorem ag_no {d : Dt} {a : Nat} {P : Nat → Nat} {k : Nat} (h : agP d a P k = false) : ∀ m, k < m → ag d a P m = false
  | 0, hm => by omega
  | m + 1, hm => by
    unfold ag
    by_cases c : k = m
    · subst c; rw [h, Bool.and_false]
    · rw [ag_no h m (by omega), Bool.false_and]
/-- the bit is the one that was heard -/
theorem ag_bit {x a p : Nat} (hp : p < 2) (hx : x < 2147483648) (ha : a < 32) : (wr (ban (bsr (x : Int) (a : Int)) 1) = wr (p : Int)) ↔ (x.testBit a == (p == 1)) = true := by
  rw [bit_n x a hx ha, wr_id (x := (p : Int)) (by omega) (by omega)]
  have h2 : p = 0 ∨ p = 1 := by omega
  rcases h2 with q | q <;> subst q <;> cases x.testBit a <;> simp [wr_0, wr_1]
theorem c_agree {d : Dt} {σ : Sg} {a : Nat} {P : Nat → Nat} (hO : OkD d) (hH : HeardI σ d) (ha : a < 7) (hP : ∀ b, b < dB d → P b < 128 ∧ σ 39 b = ((P b : Nat) : Int)) : ∀ (r k : Nat), k + r = dh d → ag d a P k = true → Run 66 2 [vR 0, vI a, vR 37, vI k] [] σ = some (vI (if ag d a P (dh d) = true then 1 else 0), σ)
  | 0, k, h, hk => by
    have h8 := hO.1.2.2.2.2.2.2.1
    have e : k = dh d := by omega
    rw [q66_2, hH.1, if_neg (by rw [wr_id (by omega) (by omega), wr_id (by omega) (by omega)]; omega), if_pos (Or.inr rfl), ← e, if_pos hk]
  | r + 1, k, h, hk => by
    have h8 := hO.1.2.2.2.2.2.2.1
    have hn := hO.1.2.1
    have hB8 := hO.1.2.2.1
    obtain ⟨i1, i2, i3⟩ := hO.2.2.2.2.2.1 k (by omega)
    obtain ⟨v1, v2, v3⟩ := hH.2 k (by omega)
    obtain ⟨p1, p2⟩ := hP (d 8 k) i2
    have ih := c_agree hO hH ha hP r (k + 1) (by omega)
    have e0 := q66_2 (a : Int) (k : Int) σ
    rw [hH.1, wr_id (x := (k : Int)) (by omega) (by omega), wr_id (x := (dh d : Int)) (by omega) (by omega), if_pos (by omega), if_pos (show 0 ≤ (k : Int) ∧ (k : Int) < 8 by omega), toN, v1, v2, v3, wr_id (x := (d 7 k : Int)) (by omega) (by omega), wr_id (x := (a : Int)) (by omega) (by omega), wr_id (x := (d 8 k : Int)) (by omega) (by omega), if_pos (show 0 ≤ (k : Int) ∧ (k : Int) < 8 by omega), if_pos (show 0 ≤ (d 8 k : Int) ∧ (d 8 k : Int) < 8 by omega), if_pos (show 0 ≤ (k : Int) ∧ (k : Int) < 8 by omega), toN, p2] at e0
    by_cases c : d 7 k = a
    · rw [if_pos (by omega)] at e0
      by_cases c1 : ((P (d 8 k)).testBit a == (d 9 k == 1)) = true
      · rw [if_pos ((ag_bit i3 (by omega) (by omega)).mpr c1)] at e0
        have : ag d a P (k + 1) = true := by
          unfold ag agP
          rw [hk, c1, Bool.or_true, Bool.and_true]
        exact e0.trans (ih this)
      · rw [if_neg (fun z => c1 ((ag_bit i3 (by omega) (by omega)).mp z)), if_pos (Or.inl rfl)] at e0
        have : agP d a P k = false := by
          unfold agP
          rw [c]
          simpa using c1
        rw [e0, ag_no this (dh d) (by omega), if_neg (by decide)]
    · rw [if_neg (by omega)] at e0
      have : ag d a P (k + 1) = true := by
        unfold ag agP
        rw [hk]
        simp [c]
      exact e0.trans (ih this)
/-- the store with another kind for a -/
def kdD (d : Dt) (a k : Nat) : Dt := uq d 1 a k
def plX (d : Dt) (a k : Nat) : Nat → Nat := plS (dn d) (kdD d a k 1) (d 2) (d 4) (d 5) (dg d) (andn (db d) (2 ^ a))
def kiS (d : Dt) (a : Nat) : Nat → Nat
  | 0 => 0
  | k + 1 => kiS d a k ||| (if ag d a (plX d a k) (dh d) = true then 2 ^ k else 0)
def r_kinds (d : Dt) (x : Int) : Int := if 0 ≤ x ∧ x < (dn d : Int) then ((kiS d x.toNat 4 : Nat) : Int) else -1
theorem kiS_lt (d : Dt) (a k : Nat) : kiS d a k < 2 ^ k := by
  induction k with
  | zero => exact Nat.zero_lt_one
  | succ k ih =>
    unfold kiS
    refine Nat.or_lt_two_pow (Nat.lt_of_lt_of_le ih (Nat.pow_le_pow_right (by decide) (by omega))) ?_
    split
    · exact p2_lt (by omega)
    · exact Nat.two_pow_pos _
theorem andn_lt2 {a b n : Nat} (h : a < 2 ^ n) : andn a b < 2 ^ n := Nat.lt_of_le_of_lt (andn_le a b) h
theorem kd_ok {d : Dt} {a k : Nat} (hO : OkD d) (hk : k < 4) : ∀ i, i < dn d → kdD d a k 1 i < 4 := fun i hi => by
  unfold kdD uq
  split
  · exact hk
  · exact (hO.2.1 i hi).1
theorem kd_band {d : Dt} {σ : Sg} {a k : Nat} (hB : BandC σ (dn d) (dB d) (d 1) (d 2) (d 4)) (hk : k < 4) : BandC (up σ 21 a (k : Int)) (dn d) (dB d) (kdD d a k 1) (d 2) (d 4) := by
  obtain ⟨b1, b2, b3, b4, b5, b6, b7⟩ := hB
  refine ⟨by rw [up_ne (by decide)]; exact b1, b2, by rw [up_ne (by decide)]; exact b3, b4, fun i hi => ?_, fun i hi => by rw [up_ne (by decide)]; exact b6 i hi, fun b hb => by rw [up_ne (by decide)]; exact b7 b hb⟩
  rw [up_j]
  unfold kdD uq
  by_cases c : i = a
  · rw [if_pos c, if_pos ⟨rfl, c⟩]; exact ⟨rfl, hk⟩
  · rw [if_neg c, if_neg (fun z => c z.2)]; exact b5 i hi
theorem c_kinds_loop {d : Dt} {a : Nat} (hO : OkD d) (ha : a < dn d) : ∀ (r k : Nat) (σ : Sg), k + r = 4 → InvC (up σ 21 a ((d 1 a : Nat) : Int)) d → ∃ σ', Run 67 25 [vR 0, vI a, vI ((d 1 a : Nat) : Int), vI ((kiS d a k : Nat) : Int), vI k] [] σ = some (vI ((kiS d a 4 : Nat) : Int), σ') ∧ InvC σ' d ∧ FrC σ σ'
  | 0, k, σ, h, hI => by
    have hn := hO.1.2.1
    have hk : k = 4 := by omega
    subst hk
    have w4 : wr 4 = 4 := by decide
    refine ⟨_, ?_, hI, fun q hq => up_ne (by omega)⟩
    rw [q67_25, w4, show wr ((4 : Nat) : Int) = 4 from by decide, if_neg (by decide), wr_id (x := (a : Int)) (by omega) (by omega), if_pos (by omega), toN]
  | r + 1, k, σ, h, hI => by
    have hn := hO.1.2.1
    have hp7 := p2_7 hn
    have hg := hO.1.2.2.2.1
    have hbb := hO.1.2.2.2.2.1
    have w4 : wr 4 = 4 := by decide
    have l2 := p2_lt ha
    have e0 := q67_25 (a : Int) ((d 1 a : Nat) : Int) ((kiS d a k : Nat) : Int) (k : Int) σ
    obtain ⟨Z, hZ⟩ : ∃ Z, Z = up σ 21 a ((d 1 a : Nat) : Int) := ⟨_, rfl⟩
    rw [← hZ] at hI
    have kZ : ∀ q, q ≠ 21 → σ q = Z q := fun q hq => by rw [hZ, up_ne hq]
    have eX : up σ 21 a (k : Int) = up Z 21 a (k : Int) := by
      rw [hZ]
      funext q j
      simp only [up_at]
      by_cases c : q = 21 ∧ j = a <;> simp [c]
    rw [w4, wr_id (x := (k : Int)) (by omega) (by omega), if_pos (by omega), wr_id (x := (a : Int)) (by omega) (by omega), if_pos (show 0 ≤ (a : Int) ∧ (a : Int) < 7 by omega), toN, eX, bsl1_n a (by omega)] at e0
    have hB1 := kd_band (k := k) (a := a) hI.1.1 (by omega)
    have hR1 : Rep (up Z 21 a (k : Int)) 1 (dn d) (d 5) := hI.2.1.1.kept (up_ne (by decide))
    obtain ⟨s1, r1, r2, r3⟩ := play_all (e := 37) (p := 1) (may := 127) (g := dg d) (bb := andn (db d) (2 ^ a)) (Or.inr (Or.inr rfl)) (Or.inl rfl) hB1 (by omega) (andn_lt2 hbb) (by decide) hO.2.2.2.1 hR1
    have r3' := EvB_127 hn hO.2.2.1 r3
    have r1' : Cal 13 [vR 37, vR 20, vR 1, vI (dg d), vI ((andn (db d) (2 ^ a) : Nat) : Int), vI 127] (up Z 21 a (k : Int)) = some (vI 0, s1) := r1
    have hH : HeardI s1 d := hI.2.2.2.2.1.kept (by rw [r2 0 (by decide) (by decide) (by decide), up_ne (by decide)]) (by rw [r2 4 (by decide) (by decide) (by decide), up_ne (by decide)]) (by rw [r2 5 (by decide) (by decide) (by decide), up_ne (by decide)]) (by rw [r2 6 (by decide) (by decide) (by decide), up_ne (by decide)])
    have hag : Cal 66 [vR 0, vI a, vR 37] s1 = some (vI (if ag d a (plX d a k) (dh d) = true then 1 else 0), s1) := (q66_0 (a : Int) s1).trans (c_agree (P := plX d a k) hO hH (by omega) (fun b hb => ⟨by have := plS_lt (dn d) (kdD d a k 1) (d 2) (d 4) (d 5) (dg d) (andn (db d) (2 ^ a)) b; show plS _ _ _ _ _ _ _ b < 128; omega, r3'.2.2.1 b hb⟩) (dh d) 0 (by omega) rfl)
    rw [up_p (q := 20) _ _ _ (by decide), up_p (q := 0) _ _ _ (by decide), hI.1.2.2, hI.2.1.2, ban_not _ _ (by omega), r1', kcV_s, hag, kcI_s] at e0
    have hI2 : InvC (up s1 21 a ((d 1 a : Nat) : Int)) d := by
      refine hI.kx (fun q q2 q37 => ?_)
      by_cases c : q = 21
      · subst c
        funext j
        rw [up_j, r2 21 (by decide) (by decide) (by decide), up_j, hZ, up_j]
        by_cases c1 : j = a
        · rw [if_pos c1, if_pos c1]
        · rw [if_neg c1, if_neg c1, if_neg c1]
      · rw [up_ne c, r2 q (by omega) (by omega) (by omega), up_ne c]
    obtain ⟨σ', t1, t2, t3⟩ := c_kinds_loop hO ha r (k + 1) s1 (by omega) hI2
    refine ⟨σ', e0.trans (Eq.trans ?_ t1), t2, fun q hq => by rw [t3 q hq, r2 q (by omega) (by omega) (by omega), up_ne (by omega), kZ q (by omega)]⟩
    have lk := kiS_lt d a k
    have lk4 : 2 ^ k < 2 ^ 4 := p2_lt (by omega)
    by_cases c : ag d a (plX d a k) (dh d) = true
    · have e1 : kiS d a (k + 1) = kiS d a k ||| 2 ^ k := by show _ ||| _ = _; rw [if_pos c]
      rw [if_pos c, wr_1, if_neg (by decide), bsl1_n k (by omega), bor_n _ _ (by omega) (by omega), ← e1]
      rfl
    · have e1 : kiS d a (k + 1) = kiS d a k := by show _ ||| _ = _; rw [if_neg c, Nat.or_zero]
      rw [if_neg c, wr_0, if_pos rfl, e1]
      rfl
theorem c_kinds {d : Dt} {σ : Sg} {x : Int} (hO : OkD d) (hI : InvC σ d) (hx : InR x) : ∃ σ', Cal 67 [vR 0, vI x] σ = some (vI (r_kinds d x), σ') ∧ InvC σ' d ∧ FrC σ σ' := by
  have hn := hO.1.2.1
  have e0 : Cal 67 [vR 0, vI x] σ = _ := q67_0 x σ
  unfold r_kinds
  rw [isI_c hI.1 hx, kcI_s] at e0
  by_cases c : 0 ≤ x ∧ x < (dn d : Int)
  · obtain ⟨a, rfl⟩ : ∃ a : Nat, x = (a : Int) := ⟨x.toNat, by omega⟩
    have ha : a < dn d := by omega
    rw [if_pos c, wr_1, if_neg (by decide), wr_in hx, if_pos (show 0 ≤ (a : Int) ∧ (a : Int) < 7 by omega), toN, (hI.1.1.2.2.2.2.1 a ha).1] at e0
    rw [if_pos c, toN]
    have hI1 : InvC (up σ 21 a ((d 1 a : Nat) : Int)) d := by
      refine hI.kx (fun q _ _ => ?_)
      by_cases c1 : q = 21
      · subst c1
        funext j
        rw [up_j]
        by_cases c2 : j = a
        · rw [if_pos c2, c2]; exact (hI.1.1.2.2.2.2.1 a ha).1.symm
        · rw [if_neg c2]
      · rw [up_ne c1]
    obtain ⟨σ', t1, t2, t3⟩ := c_kinds_loop hO ha 4 0 σ (by omega) hI1
    exact ⟨σ', e0.trans t1, t2, t3⟩
  · rw [if_neg c, wr_0, if_pos rfl] at e0
    rw [if_neg c]
    exact ⟨σ, e0, hI, FrC.rf σ⟩
-- the reference
theorem hd_div : ∀ v, v < 800 → idv ((v : Nat) : Int) 100 = ((v / 100 : Nat) : Int) ∧ idv ((v : Nat) : Int) 10 = ((v / 10 : Nat) : Int) ∧ irm ((v : Nat) : Int) 10 = ((v % 10 : Nat) : Int) := by decide +kernel
theorem m_agree {d : Dt} {σ : Sg} {a : Nat} {x2 x3 : Int} {P : Nat → Nat} (hO : OkD d) (hH : σ 40 10 = ((dh d : Nat) : Int) ∧ ∀ j, j < dh d → σ 47 j = ((100 * d 7 j + 10 * d 8 j + d 9 j : Nat) : Int)) (ha : a < 7) (hP : ∀ b, b < dB d → P b < 128 ∧ σ 51 b = ((P b : Nat) : Int)) : ∀ (r k : Nat), k + r = dh d → Run 125 55 [vR 40, vI a, vI x2, vI x3, vI (if ag d a P k = true then 1 else 0), vI k] [] σ = (if ag d a P (dh d) = true then Run 125 32 [vR 40, vI a, vI (bor x2 (bsl 1 x3)), vI (x3 + 1), vI 1, vI (dh d)] [] σ else Run 125 32 [vR 40, vI a, vI (bor x2 0), vI (x3 + 1), vI 0, vI (dh d)] [] σ)
  | 0, k, h => by
    have h8 := hO.1.2.2.2.2.2.2.1
    have e : k = dh d := by omega
    rw [q125_55, hH.1, if_neg (by rw [wr_id (by omega) (by omega), wr_id (by omega) (by omega)]; omega), ← e]
    by_cases c : ag d a P k = true
    · rw [if_pos c, if_pos c, wr_1, if_neg (by decide)]
    · rw [if_neg c, if_neg c, wr_0, if_pos rfl]
  | r + 1, k, h => by
    have h8 := hO.1.2.2.2.2.2.2.1
    have hn := hO.1.2.1
    have hB8 := hO.1.2.2.1
    obtain ⟨i1, i2, i3⟩ := hO.2.2.2.2.2.1 k (by omega)
    have v1 := hH.2 k (by omega)
    obtain ⟨p1, p2⟩ := hP (d 8 k) i2
    have ih := m_agree (x2 := x2) (x3 := x3) hO hH ha hP r (k + 1) (by omega)
    obtain ⟨z1, z2, z3⟩ := hd_div (100 * d 7 k + 10 * d 8 k + d 9 k) (by omega)
    obtain ⟨-, -, z4⟩ := hd_div ((100 * d 7 k + 10 * d 8 k + d 9 k) / 10) (by omega)
    have y1 : (100 * d 7 k + 10 * d 8 k + d 9 k) / 100 = d 7 k := by omega
    have y2 : (100 * d 7 k + 10 * d 8 k + d 9 k) / 10 % 10 = d 8 k := by omega
    have y3 : (100 * d 7 k + 10 * d 8 k + d 9 k) % 10 = d 9 k := by omega
    have w10 : wr 10 = 10 := by decide
    have w100 : wr 100 = 100 := by decide
    have e0 := q125_55 (a : Int) x2 x3 (if ag d a P k = true then 1 else 0) (k : Int) σ
    rw [hH.1, wr_id (x := (k : Int)) (by omega) (by omega), wr_id (x := (dh d : Int)) (by omega) (by omega), if_pos (show (k : Int) < (dh d : Int) by omega), toN, v1, z1, z2, z3, z4, y1, y2, y3, w10, w100, wr_id (x := (d 7 k : Int)) (by omega) (by omega), wr_id (x := (a : Int)) (by omega) (by omega), wr_id (x := (d 8 k : Int)) (by omega) (by omega), toN, p2] at e0
    have k8 : 0 ≤ (k : Int) ∧ (k : Int) < 8 := by omega
    have b8 : 0 ≤ (d 8 k : Int) ∧ (d 8 k : Int) < 8 := by omega
    simp only [if_pos k8, if_pos b8, if_neg (show ¬ (10 : Int) = 0 by decide), if_neg (show ¬ (100 : Int) = 0 by decide)] at e0
    by_cases ck : ag d a P k = true
    · rw [if_pos ck] at e0
      rw [if_pos ck]
      rw [wr_1, if_neg (by decide)] at e0
      by_cases c : d 7 k = a
      · rw [if_pos (show (d 7 k : Int) = (a : Int) by omega)] at e0
        by_cases c1 : ((P (d 8 k)).testBit a == (d 9 k == 1)) = true
        · rw [if_pos ((ag_bit i3 (by omega) (by omega)).mpr c1)] at e0
          have : ag d a P (k + 1) = true := by
            unfold ag agP
            rw [ck, c1, Bool.or_true, Bool.and_true]
          rw [if_pos this] at ih
          exact e0.trans ih
        · rw [if_neg (fun z => c1 ((ag_bit i3 (by omega) (by omega)).mp z))] at e0
          have h1 : agP d a P k = false := by
            unfold agP
            rw [c]
            simpa using c1
          rw [ag_no h1 (k + 1) (by omega), if_neg (by decide)] at ih
          exact e0.trans ih
      · rw [if_neg (show ¬ (d 7 k : Int) = (a : Int) by omega)] at e0
        have : ag d a P (k + 1) = true := by
          unfold ag agP
          rw [ck]
          simp [c]
        rw [if_pos this] at ih
        exact e0.trans ih
    · rw [if_neg ck] at e0
      rw [if_neg ck]
      rw [wr_0, if_pos rfl] at e0
      have h1 : ag d a P (k + 1) = false := by
        unfold ag
        have : ag d a P k = false := by simpa using ck
        rw [this, Bool.false_and]
      rw [h1, if_neg (by decide)] at ih
      exact e0.trans ih
