/-! EVENINGS THAT ARE TRIED: silence, hall, help -/
/-- what the class may touch and keep all it holds: the trial, the other evening -/
theorem InvC.kx {σ σ' : Sg} {d : Dt} (h : InvC σ d) (hq : ∀ q, q ≠ 2 → q < 37 → σ' q = σ q) : InvC σ' d := by
  have h10 : ∀ j, j < 2 → σ' (8 + j) = σ (8 + j) := fun j hj => hq _ (by omega) (by omega)
  obtain ⟨⟨a1, a2, a3⟩, ⟨b1, b2⟩, ⟨c1, c2, c3, c4⟩, ⟨e1, e2⟩, ⟨f1, f2⟩, ⟨g1, g0, g2⟩, ⟨u1, u2⟩, s⟩ := h
  refine ⟨⟨a1.kept (hq _ (by decide) (by decide)) (hq _ (by decide) (by decide)) (hq _ (by decide) (by decide)) (hq _ (by decide) (by decide)), fun i hi => by rw [hq _ (by decide) (by decide)]; exact a2 i hi, by rw [hq _ (by decide) (by decide)]; exact a3⟩, ⟨b1.kept (hq _ (by decide) (by decide)), by rw [hq _ (by decide) (by decide)]; exact b2⟩, ⟨by rw [hq _ (by decide) (by decide)]; exact c1, by rw [hq _ (by decide) (by decide)]; exact c2, fun j hj => by rw [hq _ (by decide) (by decide)]; exact c3 j hj, fun i hi => by rw [hq _ (by decide) (by decide)]; exact c4 i hi⟩, ⟨by rw [hq _ (by decide) (by decide)]; exact e1, fun j hj => by rw [hq _ (by decide) (by decide)]; exact e2 j hj⟩, ⟨by rw [hq _ (by decide) (by decide)]; exact f1, fun j hj => by rw [hq 4 (by decide) (by decide), hq 5 (by decide) (by decide), hq 6 (by decide) (by decide)]; exact f2 j hj⟩, ⟨by rw [hq _ (by decide) (by decide)]; exact g1, g0, fun j hj => ?_⟩, ⟨by rw [hq _ (by decide) (by decide)]; exact u1, fun j hj => by rw [hq 3 (by decide) (by decide)]; exact u2 j hj⟩, ?_⟩
  · obtain ⟨x, y⟩ := g2 j hj
    refine ⟨?_, by rw [hq 10 (by decide) (by decide)]; exact y⟩
    exact x.kept (h10 j (by omega))
  · unfold SurvI SurvK
    rw [hq 29 (by decide) (by decide), hq 31 (by decide) (by decide)]
    rcases s with s | ⟨s1, s2, s3, s4, s5, s6, s7, s8⟩
    · exact Or.inl s
    · exact Or.inr ⟨s1, s2, s3, s4, s5, s6, fun hk => (s7 hk).kept (hq _ (by decide) (by decide)), s8⟩
theorem and_andn (a b m : Nat) : a &&& andn b m = andn (a &&& b) m := by
  apply Nat.eq_of_testBit_eq
  intro i
  rw [Nat.testBit_and, andn_bit, andn_bit, Nat.testBit_and]
  cases a.testBit i <;> cases b.testBit i <;> cases m.testBit i <;> rfl
/-- notes, whole bars, when the seats are ss, the gaps g, the bribes bb -/
def ntX (d : Dt) (ss : Nat → Nat) (g bb mu : Nat) : Nat := ntS (dn d) (d 1) (d 2) (fun j => andn (d 4 j) mu) ss g bb (dB d)
def whX (d : Dt) (ss : Nat → Nat) (g bb mu : Nat) : Nat := whS (dn d) (d 1) (d 2) (fun j => andn (d 4 j) mu) ss g bb (dB d)
theorem fun_andn0 (d : Dt) : (fun j => andn (d 4 j) 0) = d 4 := funext fun j => andn_0 _
theorem ntX_0 (d : Dt) (ss : Nat → Nat) (g bb : Nat) : ntX d ss g bb 0 = ntS (dn d) (d 1) (d 2) (d 4) ss g bb (dB d) := by unfold ntX; rw [fun_andn0]
theorem whX_0 (d : Dt) (ss : Nat → Nat) (g bb : Nat) : whX d ss g bb 0 = whS (dn d) (d 1) (d 2) (d 4) ss g bb (dB d) := by unfold whX; rw [fun_andn0]
theorem ntX_le (d : Dt) (ss : Nat → Nat) (g bb mu : Nat) : ntX d ss g bb mu ≤ 8 * dB d := ntS_le _ _ _ _ _ _ _ _
theorem whX_le (d : Dt) (ss : Nat → Nat) (g bb mu : Nat) : whX d ss g bb mu ≤ dB d := whS_le _ _ _ _ _ _ _ _
/-- the class tries an evening -/
theorem c_even {d : Dt} {σ : Sg} {p g bb mu : Nat} {ss : Nat → Nat} (hO : OkD d) (hB : BandI σ d) (hp : p = 1 ∨ p = 2 ∨ p = 32) (hg : g < 2147483648) (hbb : bb < 2 ^ dn d) (hmu : mu < 128) (hpm : PermS (dn d) ss) (hR : Rep σ p (dn d) ss) : ∃ σ', Cal 13 [vR 37, vR 20, vR p, vI g, vI bb, vI ((andn 127 mu : Nat) : Int)] σ = some (vI 0, σ') ∧ (∀ q, q ≠ 37 → q ≠ 38 → q ≠ 39 → σ' q = σ q) ∧ σ' 37 2 = ((ntX d ss g bb mu : Nat) : Int) ∧ σ' 37 3 = ((whX d ss g bb mu : Nat) : Int) := by
  have hn := hO.1.2.1
  have l127 := andn_le 127 mu
  obtain ⟨s1, r1, r2, r3⟩ := play_all (e := 37) (p := p) (may := andn 127 mu) (Or.inr (Or.inr rfl)) hp hB.1 hg hbb (by omega) hpm hR
  have hc : ∀ j, j < dB d → (fun j => d 4 j &&& andn 127 mu) j = (fun j => andn (d 4 j) mu) j := fun j hj => by
    show d 4 j &&& andn 127 mu = andn (d 4 j) mu
    rw [and_andn, and_127 hn (hO.2.2.1 j hj)]
  refine ⟨s1, r1, r2, ?_, ?_⟩
  · rw [r3.1]
    unfold ntX
    rw [ntS_congr (fun _ _ => rfl) (fun _ _ => rfl) hc (fun _ _ => rfl) _ (Nat.le_refl _)]
  · rw [r3.2.1]
    unfold whX
    rw [whS_congr (fun _ _ => rfl) (fun _ _ => rfl) hc (fun _ _ => rfl) _ (Nat.le_refl _)]
theorem c_even0 {d : Dt} {σ : Sg} {p g bb : Nat} {ss : Nat → Nat} (hO : OkD d) (hB : BandI σ d) (hp : p = 1 ∨ p = 2 ∨ p = 32) (hg : g < 2147483648) (hbb : bb < 2 ^ dn d) (hpm : PermS (dn d) ss) (hR : Rep σ p (dn d) ss) : ∃ σ', Cal 13 [vR 37, vR 20, vR p, vI g, vI bb, vI 127] σ = some (vI 0, σ') ∧ (∀ q, q ≠ 37 → q ≠ 38 → q ≠ 39 → σ' q = σ q) ∧ σ' 37 2 = ((ntX d ss g bb 0 : Nat) : Int) ∧ σ' 37 3 = ((whX d ss g bb 0 : Nat) : Int) := c_even (mu := 0) hO hB hp hg hbb (by decide) hpm hR
/-- the reference tries an evening -/
theorem m_even {d : Dt} {σ : Sg} {g bb mu : Nat} {ss : Nat → Nat} (hO : OkD d) (hM : InvM σ d) (hG : GoIn σ (dn d) (d 1) ss g bb mu) (hpm : PermS (dn d) ss) : ∃ σ', Cal 95 [vR 40] σ = some (vI ((whX d ss g bb mu : Nat) : Int), σ') ∧ σ' 40 19 = ((ntX d ss g bb mu : Nat) : Int) ∧ GoIn σ' (dn d) (d 1) ss g bb mu ∧ InvM σ' d ∧ (∀ q, q ≠ 40 → q ≠ 49 → q ≠ 51 → σ' q = σ q) ∧ (∀ j, j ≠ 19 → σ' 40 j = σ 40 j) := by
  obtain ⟨σ2, s1, s2, s3, s4⟩ := go_all hM.1 hG hpm hO.1.1
  exact ⟨σ2, s1, s4.1, hG.kept (s2 _ (by decide) (by decide) (by decide)) (s2 _ (by decide) (by decide) (by decide)) (s3 _ (by decide)) (s3 _ (by decide)) (s3 _ (by decide)), go_inv hM s2 s3, s2, s3⟩
theorem InvM.u40 {σ : Sg} {d : Dt} {j : Nat} {x : Int} (h : InvM σ d) (hj : 10 < j) : InvM (up σ 40 j x) d := h.kept (up_ne (by decide)) (up_ne (by decide)) (up_ne (by decide)) (up_ne (by decide)) (up_ne (by decide)) (up_ne (by decide)) (by rw [up_j, if_neg (by omega)]) (by rw [up_j, if_neg (by omega)]) (by rw [up_j, if_neg (by omega)]) (by rw [up_j, if_neg (by omega)])
theorem FrM.u40 {σ τ : Sg} {j : Nat} {x : Int} (h : FrM σ τ) : FrM σ (up τ 40 j x) := fun q hq => (up_ne (by omega)).trans (h q hq)
-- silence
def r_silence (d : Dt) (x : Int) : Int := if 0 ≤ x ∧ x < (dn d : Int) then ((ntD d : Nat) : Int) - ((ntX d (d 5) (dg d) (db d) (2 ^ x.toNat) : Nat) : Int) + 100 else -1
theorem c_silence {d : Dt} {σ : Sg} {x : Int} (hO : OkD d) (hI : InvC σ d) (hx : InR x) : ∃ σ', Cal 59 [vR 0, vI x] σ = some (vI (r_silence d x), σ') ∧ InvC σ' d ∧ FrC σ σ' := by
  have hn := hO.1.2.1
  have hp7 := p2_7 hn
  have hg := hO.1.2.2.2.1
  have e0 : Cal 59 [vR 0, vI x] σ = _ := q59_0 x σ
  unfold r_silence
  rw [isI_c hI.1 hx, kcI_s] at e0
  by_cases c : 0 ≤ x ∧ x < (dn d : Int)
  · have l2 := p2_lt (show x.toNat < dn d by omega)
    have ex : bsl 1 x = ((2 ^ x.toNat : Nat) : Int) := by
      have := bsl1_n x.toNat (by omega)
      rwa [show ((x.toNat : Nat) : Int) = x by omega] at this
    have e127 : ban 127 (bxo ((2 ^ x.toNat : Nat) : Int) (-1)) = ((andn 127 (2 ^ x.toNat) : Nat) : Int) := ban_not 127 (2 ^ x.toNat) (by decide)
    obtain ⟨σ', r1, r2, r3, r4⟩ := c_even (g := dg d) (mu := 2 ^ x.toNat) hO hI.1 (Or.inl rfl) (by omega) hO.1.2.2.2.2.1 (by omega) hO.2.2.2.1 hI.2.1.1
    rw [if_pos c, wr_1, if_neg (by decide), hI.1.2.2, hI.2.1.2, ex, e127, r1, kcV_s, r3, r2 26 (by decide) (by decide) (by decide), hI.2.2.1.1] at e0
    rw [if_pos c]
    exact ⟨σ', e0, hI.kx (fun q _ hq => r2 q (by omega) (by omega) (by omega)), fun q hq => r2 q (by omega) (by omega) (by omega)⟩
  · rw [if_neg c, wr_0, if_pos rfl] at e0
    rw [if_neg c]
    exact ⟨σ, e0, hI, FrC.rf σ⟩
theorem m_silence {d : Dt} {σ : Sg} {x : Int} (hO : OkD d) (hM : InvM σ d) (hx : InR x) : ∃ σ', Cal 118 [vR 40, vI x] σ = some (vI (r_silence d x), σ') ∧ InvM σ' d ∧ FrM σ σ' := by
  have hn := hO.1.2.1
  have hp7 := p2_7 hn
  have e0 : Cal 118 [vR 40, vI x] σ = _ := q118_0 x σ
  unfold r_silence
  rw [isI_m hM hx, kcI_s] at e0
  by_cases c : 0 ≤ x ∧ x < (dn d : Int)
  · have l2 := p2_lt (show x.toNat < dn d by omega)
    have ex : bsl 1 x = ((2 ^ x.toNat : Nat) : Int) := by
      have := bsl1_n x.toNat (by omega)
      rwa [show ((x.toNat : Nat) : Int) = x by omega] at this
    obtain ⟨σ1, σ2, r1, r2, r3, r4, r5, r6⟩ := now_m hO hM
    have hG : GoIn (up σ2 40 18 ((2 ^ x.toNat : Nat) : Int)) (dn d) (d 1) (d 5) (dg d) (db d) (2 ^ x.toNat) := by
      obtain ⟨g1, g2, g3, g4, g5, g6, g7, g8⟩ := r4
      exact ⟨fun i hi => by rw [up_ne (by decide)]; exact g1 i hi, fun i hi => by rw [up_ne (by decide)]; exact g2 i hi, by rw [up_j, if_neg (by decide)]; exact g3, g4, by rw [up_j, if_neg (by decide)]; exact g5, g6, up_e _ _ _ _, by omega⟩
    obtain ⟨σ3, t1, t2, t3, t4, t5, t6⟩ := m_even hO (r5.u40 (by decide)) hG hO.2.2.2.1
    rw [if_pos c, wr_1, if_neg (by decide), r1, kcV_s, r2, kcI_s, ex, t1, kcI_s, up_j, if_neg (by decide), t2, r3.1] at e0
    rw [if_pos c]
    exact ⟨_, e0, t4.u40 (by decide), FrM.u40 (fun q hq => by rw [t5 q (by omega) (by omega) (by omega), up_ne (by omega), r6 q hq])⟩
  · rw [if_neg c, wr_0, if_pos rfl] at e0
    rw [if_neg c]
    exact ⟨σ, e0, hM, FrM.rf σ⟩
-- hall
def r_hall (d : Dt) (x : Int) : Int := if x = 9 then ((ntX d (d 5) 0 (db d) 0 : Nat) : Int) else if 0 ≤ x ∧ x ≤ (dn d : Int) - 2 then ((ntX d (d 5) (2 ^ x.toNat) (db d) 0 : Nat) : Int) else -1
theorem c_hall {d : Dt} {σ : Sg} {x : Int} (hO : OkD d) (hI : InvC σ d) (hx : InR x) : ∃ σ', Cal 68 [vR 0, vI x] σ = some (vI (r_hall d x), σ') ∧ InvC σ' d ∧ FrC σ σ' := by
  have hn := hO.1.2.1
  have hp7 := p2_7 hn
  have w9 : wr 9 = 9 := by decide
  have e0 : Cal 68 [vR 0, vI x] σ = _ := q68_0 x σ
  have e1 := q68_25 x σ
  unfold r_hall
  have fin : ∀ g : Nat, g < 128 → ∃ σ', Run 68 50 [vR 0, vI x] [vI (g : Int), vR 1, vR 20, vR 37] σ = some (vI ((ntX d (d 5) g (db d) 0 : Nat) : Int), σ') ∧ InvC σ' d ∧ FrC σ σ' := fun g hg => by
    obtain ⟨σ', r1, r2, r3, r4⟩ := c_even0 (g := g) hO hI.1 (Or.inl rfl) (by omega) hO.1.2.2.2.2.1 hO.2.2.2.1 hI.2.1.1
    have e2 := q68_50 x (g : Int) σ
    rw [hI.2.1.2, r1, kcV_s, r3] at e2
    exact ⟨σ', e2, hI.kx (fun q _ hq => r2 q (by omega) (by omega) (by omega)), fun q hq => r2 q (by omega) (by omega) (by omega)⟩
  rw [w9, wr_in hx] at e0 e1
  by_cases c9 : x = 9
  · rw [if_pos c9] at e0 e1
    rw [if_pos c9]
    obtain ⟨σ', f1, f2, f3⟩ := fin 0 (by decide)
    exact ⟨σ', e0.trans (e1.trans f1), f2, f3⟩
  · rw [if_neg c9, hI.1.1.1] at e0
    rw [if_neg c9] at e1
    rw [if_neg c9]
    by_cases c0 : x < 0
    · rw [if_pos c0] at e0
      rw [if_neg (by omega)]
      exact ⟨σ, e0, hI, FrC.rf σ⟩
    · rw [if_neg c0, wr_id (x := (dn d : Int) - 2) (by omega) (by omega)] at e0
      by_cases c1 : (dn d : Int) - 2 < x
      · rw [if_pos c1] at e0
        rw [if_neg (by omega)]
        exact ⟨σ, e0, hI, FrC.rf σ⟩
      · rw [if_neg c1] at e0
        have l2 := p2_lt (show x.toNat < dn d by omega)
        have ex : bsl 1 x = ((2 ^ x.toNat : Nat) : Int) := by
          have := bsl1_n x.toNat (by omega)
          rwa [show ((x.toNat : Nat) : Int) = x by omega] at this
        rw [ex] at e1
        rw [if_pos (by omega)]
        obtain ⟨σ', f1, f2, f3⟩ := fin (2 ^ x.toNat) (by omega)
        exact ⟨σ', e0.trans (e1.trans f1), f2, f3⟩
theorem m_hall {d : Dt} {σ : Sg} {x : Int} (hO : OkD d) (hM : InvM σ d) (hx : InR x) : ∃ σ', Cal 126 [vR 40, vI x] σ = some (vI (r_hall d x), σ') ∧ InvM σ' d ∧ FrM σ σ' := by
  have hn := hO.1.2.1
  have hp7 := p2_7 hn
  have w9 : wr 9 = 9 := by decide
  have e0 : Cal 126 [vR 40, vI x] σ = _ := q126_0 x σ
  have e1 := q126_24 x σ
  obtain ⟨σ1, a1, a2, a3, a4⟩ := asit hO hM
  have fin : ∀ g : Nat, g < 128 → ∃ σ', Run 126 42 [vR 40, vI x] [vI (g : Int), vR 40] σ1 = some (vI ((ntX d (d 5) g (db d) 0 : Nat) : Int), σ') ∧ InvM σ' d ∧ FrM σ σ' := fun g hg => by
    have hG : GoIn (up σ1 40 17 (g : Int)) (dn d) (d 1) (d 5) g (db d) 0 := by
      obtain ⟨g1, g2, g3, g4, g5, g6, g7, g8⟩ := a3
      exact ⟨fun i hi => by rw [up_ne (by decide)]; exact g1 i hi, fun i hi => by rw [up_ne (by decide)]; exact g2 i hi, by rw [up_j, if_neg (by decide)]; exact g3, g4, up_e _ _ _ _, by omega, by rw [up_j, if_neg (by decide)]; exact g7, g8⟩
    obtain ⟨σ3, t1, t2, t3, t4, t5, t6⟩ := m_even hO (a4.u40 (by decide)) hG hO.2.2.2.1
    have e2 := q126_42 x (g : Int) σ1
    rw [t1, kcI_s, t2] at e2
    exact ⟨σ3, e2, t4, fun q hq => by rw [t5 q (by omega) (by omega) (by omega), up_ne (by omega), a2 q (by omega) (by omega) (by omega)]⟩
  unfold r_hall
  rw [wr_0, if_pos (by omega), Int.toNat_zero, hM.1.1, in_m hx ⟨by omega, by omega⟩ ⟨by omega, by omega⟩, kcI_s, w9, wr_in hx] at e0
  rw [a1, kcV_s, w9, wr_in hx] at e1
  by_cases c9 : x = 9
  · rw [if_neg (show ¬ (0 ≤ x ∧ x ≤ (dn d : Int) - 2) by omega), wr_0, if_pos rfl, if_pos c9] at e0
    rw [if_pos c9] at e1
    rw [if_pos c9]
    obtain ⟨σ', f1, f2, f3⟩ := fin 0 (by decide)
    exact ⟨σ', e0.trans (e1.trans f1), f2, f3⟩
  · rw [if_neg c9] at e1
    rw [if_neg c9]
    by_cases c : 0 ≤ x ∧ x ≤ (dn d : Int) - 2
    · rw [if_pos c, wr_1, if_neg (by decide)] at e0
      have l2 := p2_lt (show x.toNat < dn d by omega)
      have ex : bsl 1 x = ((2 ^ x.toNat : Nat) : Int) := by
        have := bsl1_n x.toNat (by omega)
        rwa [show ((x.toNat : Nat) : Int) = x by omega] at this
      rw [ex] at e1
      rw [if_pos c]
      obtain ⟨σ', f1, f2, f3⟩ := fin (2 ^ x.toNat) (by omega)
      exact ⟨σ', e0.trans (e1.trans f1), f2, f3⟩
    · rw [if_neg c, wr_0, if_pos rfl, if_neg c9] at e0
      rw [if_neg c]
      exact ⟨σ, e0, hM, FrM.rf σ⟩
-- help
def hpS (d : Dt) (a b : Nat) (s : Int × Nat) : Int × Nat := if s.2 < ntX d (swF (d 5) a b) (dg d) (db d) 0 then (((8 * a + b : Nat) : Int), ntX d (swF (d 5) a b) (dg d) (db d) 0) else s
def hpIn (d : Dt) (a : Nat) : Nat → Nat → Int × Nat → Int × Nat
  | 0, _, s => s
  | r + 1, b, s => hpIn d a r (b + 1) (hpS d a b s)
def hpOut (d : Dt) : Nat → Nat → Int × Nat → Int × Nat
  | 0, _, s => s
  | r + 1, a, s => hpOut d r (a + 1) (hpIn d a (dn d - (a + 1)) (a + 1) s)
theorem hpS_le {d : Dt} {a b : Nat} {s : Int × Nat} (hB : dB d ≤ 8) (h1 : s.2 ≤ 64) (h2 : -4 ≤ s.1 ∧ s.1 < 64) (ha : a < 7) (hb : b < 7) : (hpS d a b s).2 ≤ 64 ∧ -4 ≤ (hpS d a b s).1 ∧ (hpS d a b s).1 < 64 := by
  have := ntX_le d (swF (d 5) a b) (dg d) (db d) 0
  unfold hpS
  split
  · refine ⟨?_, ?_, ?_⟩
    · show ntX d _ _ _ _ ≤ 64; omega
    · show (-4 : Int) ≤ ((8 * a + b : Nat) : Int); omega
    · show ((8 * a + b : Nat) : Int) < 64; omega
  · exact ⟨h1, h2.1, h2.2⟩
theorem hpIn_le {d : Dt} {a : Nat} (hB : dB d ≤ 8) (ha : a < 7) : ∀ (r b : Nat) (s : Int × Nat), b + r ≤ 7 → s.2 ≤ 64 → -4 ≤ s.1 ∧ s.1 < 64 → (hpIn d a r b s).2 ≤ 64 ∧ -4 ≤ (hpIn d a r b s).1 ∧ (hpIn d a r b s).1 < 64
  | 0, _, s, _, h1, h2 => ⟨h1, h2.1, h2.2⟩
  | r + 1, b, s, h, h1, h2 => by
    have k := hpS_le hB h1 h2 ha (by omega : b < 7)
    exact hpIn_le hB ha r (b + 1) _ (by omega) k.1 k.2
def r_help (d : Dt) (x : Int) : Int := if 0 ≤ x ∧ x ≤ 1 then (if (hpOut d (dn d) 0 (-4, ntD d)).1 = -4 then -4 else if x = 0 then (hpOut d (dn d) 0 (-4, ntD d)).1 else (((hpOut d (dn d) 0 (-4, ntD d)).2 : Nat) : Int)) else -1
theorem c_help_in {d : Dt} {x : Int} {a : Nat} (hO : OkD d) (ha : a < dn d) : ∀ (r b : Nat) (s : Int × Nat) (σ : Sg), b + r = dn d → InvC σ d → Rep σ 2 (dn d) (d 5) → s.2 ≤ 64 → -4 ≤ s.1 ∧ s.1 < 64 → ∃ σ', Run 56 61 [vR 0, vI x, vI s.1, vI (s.2 : Int), vI a, vI b] [] σ = Run 56 43 [vR 0, vI x, vI (hpIn d a r b s).1, vI ((hpIn d a r b s).2 : Int), vI ((a : Int) + 1), vI (dn d)] [] σ' ∧ InvC σ' d ∧ Rep σ' 2 (dn d) (d 5) ∧ FrC σ σ'
  | 0, b, s, σ, h, hI, hR, h1, h2 => by
    have hn := hO.1.2.1
    have hb : b = dn d := by omega
    refine ⟨σ, ?_, hI, hR, FrC.rf σ⟩
    rw [q56_61, hI.1.1.1, if_neg (by rw [wr_id (by omega) (by omega), wr_id (by omega) (by omega)]; omega), hb]
    rfl
  | r + 1, b, s, σ, h, hI, hR, h1, h2 => by
    have hn := hO.1.2.1
    have hg := hO.1.2.2.2.1
    have hB8 := hO.1.2.2.1
    have hb : b < dn d := by omega
    have e0 := q56_61 x s.1 (s.2 : Int) a b σ
    rw [hI.1.1.1, wr_id (x := (b : Int)) (by omega) (by omega), wr_id (x := (dn d : Int)) (by omega) (by omega), if_pos (by omega), swp_c (Or.inr (Or.inl rfl)) (by omega) (by omega), kcV_s] at e0
    obtain ⟨X, hX⟩ : ∃ X, X = up (up σ 2 a (σ 2 b)) 2 b (σ 2 a) := ⟨_, rfl⟩
    have hR1 : Rep X 2 (dn d) (swF (d 5) a b) := by rw [hX]; exact hR.sw ha hb
    rw [← hX] at e0
    have kX : ∀ q, q ≠ 2 → X q = σ q := fun q hq => by rw [hX, up_ne hq, up_ne hq]
    have hI1 : InvC X d := hI.kx (fun q hq _ => kX q hq)
    obtain ⟨s2, r1, r2, r3, r4⟩ := c_even0 (g := dg d) hO hI1.1 (Or.inr (Or.inl rfl)) (by omega) hO.1.2.2.2.2.1 (swF_perm hO.2.2.2.1 ha hb) hR1
    rw [hI1.1.2.2, hI1.2.1.2, r1, kcV_s, swp_c (Or.inr (Or.inl rfl)) (by omega) (by omega), kcV_s] at e0
    have hR2 : Rep s2 2 (dn d) (swF (d 5) a b) := hR1.kept (r2 2 (by decide) (by decide) (by decide))
    obtain ⟨Y, hY⟩ : ∃ Y, Y = up (up s2 2 a (s2 2 b)) 2 b (s2 2 a) := ⟨_, rfl⟩
    have hR3 : Rep Y 2 (dn d) (d 5) := by
      rw [hY]
      exact (hR2.sw ha hb).to (fun i _ => swF_twice (d 5) a b i)
    rw [← hY] at e0
    have kY : ∀ q, q ≠ 2 → Y q = s2 q := fun q hq => by rw [hY, up_ne hq, up_ne hq]
    have hI2 : InvC Y d := hI1.kx (fun q hq hq2 => by rw [kY q hq, r2 q (by omega) (by omega) (by omega)])
    have l1 := ntX_le d (swF (d 5) a b) (dg d) (db d) 0
    have kk := hpS_le hB8 h1 h2 (by omega : a < 7) (by omega : b < 7)
    obtain ⟨σ', t1, t2, t3, t4⟩ := c_help_in (x := x) hO ha r (b + 1) (hpS d a b s) Y (by omega) hI2 hR3 kk.1 kk.2
    refine ⟨σ', e0.trans ?_, t2, t3, fun q hq => by rw [t4 q hq, kY q (by omega), r2 q (by omega) (by omega) (by omega), kX q (by omega)]⟩
    rw [kY 37 (by decide), r3, wr_id (x := (s.2 : Int)) (by omega) (by omega), wr_id (x := ((ntX d (swF (d 5) a b) (dg d) (db d) 0 : Nat) : Int)) (by omega) (by omega)]
    refine Eq.trans ?_ t1
    unfold hpS
    by_cases c : s.2 < ntX d (swF (d 5) a b) (dg d) (db d) 0
    · rw [if_pos (by omega), if_pos c]
      show Run 56 61 _ _ _ = Run 56 61 [vR 0, vI x, vI ((8 * a + b : Nat) : Int), vI ((ntX d (swF (d 5) a b) (dg d) (db d) 0 : Nat) : Int), vI a, vI ((b + 1 : Nat) : Int)] [] Y
      rw [show (8 * (a : Int) + (b : Int)) = ((8 * a + b : Nat) : Int) by omega]
      rfl
    · rw [if_neg (by omega), if_neg c]
      rfl
