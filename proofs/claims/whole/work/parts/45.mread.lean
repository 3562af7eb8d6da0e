/-! THE TEXT in the reference: all of it; fault on both sides -/
def KM (σ σ' : Sg) : Prop := (∀ q, q ≠ 40 → q ≠ 43 → σ' q = σ q) ∧ ∀ j, j ≠ 11 → σ' 40 j = σ 40 j
theorem KM.tr {a b c : Sg} (h : KM a b) (k : KM b c) : KM a c := ⟨fun q q1 q2 => by rw [k.1 q q1 q2, h.1 q q1 q2], fun j hj => by rw [k.2 j hj, h.2 j hj]⟩
theorem KM.of {a b : Sg} (h : K11 a b) : KM a b := ⟨fun q q1 _ => h.1 q q1, h.2⟩
theorem KM.o43 {a b : Sg} (h : ∀ q, q ≠ 43 → b q = a q) : KM a b := ⟨fun q _ q2 => h q q2, fun j _ => by rw [h 40 (by decide)]⟩
theorem KM.rf (σ : Sg) : KM σ σ := ⟨fun _ _ _ => rfl, fun _ _ => rfl⟩
theorem TextM.km {σ σ' : Sg} {d : Dt} (h : TextM σ d) (k : KM σ σ') : TextM σ' d := ⟨by rw [k.2 1 (by decide)]; exact h.1, fun j hj => by rw [k.1 41 (by decide) (by decide)]; exact h.2 j hj⟩
def ItM (D : Dt) (σ : Sg) (c : Nat) (o : Option (Nat × Dt)) : Prop := (∀ eD, o = some eD → ∃ σ', Cal 88 [vR 40, vI c] σ = some (vI 1, σ') ∧ DrM σ' eD.2 ∧ σ' 40 11 = ((eD.1 : Nat) : Int) ∧ KM σ σ') ∧ (o = none → ∃ σ', Cal 88 [vR 40, vI c] σ = some (vI 0, σ') ∧ DrM σ' D ∧ KM σ σ')
theorem ItM.s {D D' : Dt} {σ : Sg} {c e : Nat} (h : ∃ σ', Cal 88 [vR 40, vI c] σ = some (vI 1, σ') ∧ DrM σ' D' ∧ σ' 40 11 = ((e : Nat) : Int) ∧ KM σ σ') : ItM D σ c (some (e, D')) := ⟨fun eD hs => by
  rw [Option.some.injEq] at hs
  rw [← hs]
  exact h, fun hn => by cases hn⟩
theorem ItM.n {D : Dt} {σ : Sg} {c : Nat} (h : ∃ σ', Cal 88 [vR 40, vI c] σ = some (vI 0, σ') ∧ DrM σ' D ∧ KM σ σ') : ItM D σ c none := ⟨fun eD hs => (by cases hs), fun _ => h⟩
theorem m_it {d D : Dt} {σ : Sg} {p : Nat} (hO : OkD d) (hT : TextM σ d) (hp : p < dL d) (ha : σ 40 11 = ((p + 1 : Nat) : Int)) (hR : OkR D) (hD : DrM σ D) : ItM D σ (d 6 p) (rdIt d p D) := by
  have hL := hO.1.2.2.2.2.2.1
  have w3 : wr 3 = 3 := by decide
  have w7 : wr 7 = 7 := by decide
  have w8 : wr 8 = 8 := by decide
  have w_1 : wr (-1) = -1 := by decide
  have b1 := nxt_le d (p + 1)
  have b2 := nxt_le d (nxt d (p + 1))
  have b3 := nxt_le d (nxt d (nxt d (p + 1)))
  have hlt := hO.2.2.2.2.1 p hp
  have wc : wr ((d 6 p : Nat) : Int) = ((d 6 p : Nat) : Int) := wr_id (by omega) (by omega)
  have e0 : Cal 88 [vR 40, vI ((d 6 p : Nat) : Int)] σ = _ := q88_0 ((d 6 p : Nat) : Int) σ
  rw [wc] at e0
  have kD : ∀ σ1 : Sg, K11 σ σ1 → DrM σ1 D := fun σ1 k1 => hD.k (k1.1 43 (by decide))
  unfold rdIt
  by_cases c1 : d 6 p = 105
  · rw [if_pos c1]
    rw [if_neg (show ¬ ((d 6 p : Nat) : Int) = 98 by omega), if_neg (show ¬ ((d 6 p : Nat) : Int) = 103 by omega), if_pos (show ((d 6 p : Nat) : Int) = 105 by omega)] at e0
    have f85 : ∀ (σ1 : Sg) (x2 x3 : Int), Run 88 85 [vR 40, vI ((d 6 p : Nat) : Int), vI x2, vI x3, vJ] [vI (-1)] σ1 = some (vI 0, σ1) := fun σ1 x2 x3 => by
      rw [q88_85, w_1, if_pos (by decide), if_pos (Or.inl rfl)]
    have f68 : ∀ (σ1 : Sg) (x2 : Int), Run 88 68 [vR 40, vI ((d 6 p : Nat) : Int), vI x2, vJ, vJ] [vI (-1)] σ1 = some (vI 0, σ1) := fun σ1 x2 => by
      rw [q88_68, w_1, if_pos (by decide), f85]
    obtain ⟨n1, n2⟩ := m_num (j := p + 1) (e := 44) (hi := 3) hO hT ha (by omega) (by decide) (by decide)
    have e0 : Cal 88 [vR 40, vI ((d 6 p : Nat) : Int)] σ = kcI (Cal 87 [vR 40, vI 3, vI ((44 : Nat) : Int)] σ) _ := e0
    by_cases g1 : isN d (p + 1) 44 = true ∧ ((nmb d (p + 1) : Nat) : Int) ≤ 3
    · obtain ⟨s1, r1, r2, r3⟩ := n1 g1
      rw [r1, kcI_s, wr_id (x := ((nmb d (p + 1) : Nat) : Int)) (by omega) (by omega), if_neg (by omega)] at e0
      obtain ⟨m1, m2⟩ := m_num (j := nxt d (p + 1)) (e := 44) (hi := 6) hO (hT.k r3) r2 (by omega) (by decide) (by decide)
      have e0 : Cal 88 [vR 40, vI ((d 6 p : Nat) : Int)] σ = kcI (Cal 87 [vR 40, vI 6, vI ((44 : Nat) : Int)] s1) _ := e0
      by_cases g2 : isN d (nxt d (p + 1)) 44 = true ∧ ((nmb d (nxt d (p + 1)) : Nat) : Int) ≤ 6
      · obtain ⟨s2, t1, t2, t3⟩ := m1 g2
        have k2 : K11 σ s2 := ⟨fun q hq => by rw [t3.1 q hq, r3.1 q hq], fun j hj => by rw [t3.2 j hj, r3.2 j hj]⟩
        rw [t1, kcI_s, q88_68, wr_id (x := ((nmb d (nxt d (p + 1)) : Nat) : Int)) (by omega) (by omega), if_neg (by omega)] at e0
        obtain ⟨l1, l2⟩ := m_num (j := nxt d (nxt d (p + 1))) (e := 59) (hi := 30) hO (hT.k k2) t2 (by omega) (by decide) (by decide)
        have e0 : Cal 88 [vR 40, vI ((d 6 p : Nat) : Int)] σ = kcI (Cal 87 [vR 40, vI 30, vI ((59 : Nat) : Int)] s2) _ := e0
        by_cases g3 : isN d (nxt d (nxt d (p + 1))) 59 = true ∧ ((nmb d (nxt d (nxt d (p + 1))) : Nat) : Int) ≤ 30
        · obtain ⟨s3, u1, u2, u3⟩ := l1 g3
          have k3 : K11 σ s3 := ⟨fun q hq => by rw [u3.1 q hq, k2.1 q hq], fun j hj => by rw [u3.2 j hj, k2.2 j hj]⟩
          have hD3 := kD s3 k3
          rw [u1, kcI_s, q88_85, wr_id (x := ((nmb d (nxt d (nxt d (p + 1))) : Nat) : Int)) (by omega) (by omega), if_neg (by omega), wr_0, if_pos (by decide), Int.toNat_zero, hD3.1.1, w7, wr_id (x := ((D 0 0 : Nat) : Int)) (by have := hR.1.1; omega) (by have := hR.1.1; omega)] at e0
          by_cases g4 : D 0 0 < 7
          · obtain ⟨s4, v1, v2, v3⟩ := m_adds (a := nmb d (p + 1)) (b := nmb d (nxt d (p + 1))) (c := nmb d (nxt d (nxt d (p + 1)))) hR hD3 g4
            rw [if_neg (by omega), v1, kcV_s, if_pos (Or.inr rfl)] at e0
            rw [if_pos ⟨⟨g1.1, g2.1, g3.1⟩, g4, by omega, by omega, by omega⟩]
            exact ItM.s ⟨s4, e0, v2, by rw [v3 40 (by decide), u2], (KM.of k3).tr (KM.o43 v3)⟩
          · rw [if_pos (by have := hR.1.1; omega), if_pos (Or.inl rfl)] at e0
            rw [if_neg (fun z => g4 z.2.1)]
            exact ItM.n ⟨s3, e0, hD3, KM.of k3⟩
        · obtain ⟨s3, u1, u3⟩ := l2 g3
          have k3 : K11 σ s3 := ⟨fun q hq => by rw [u3.1 q hq, k2.1 q hq], fun j hj => by rw [u3.2 j hj, k2.2 j hj]⟩
          rw [u1, kcI_s, f85] at e0
          rw [if_neg (fun z => g3 ⟨z.1.2.2, by omega⟩)]
          exact ItM.n ⟨s3, e0, kD s3 k3, KM.of k3⟩
      · obtain ⟨s2, t1, t3⟩ := m2 g2
        have k2 : K11 σ s2 := ⟨fun q hq => by rw [t3.1 q hq, r3.1 q hq], fun j hj => by rw [t3.2 j hj, r3.2 j hj]⟩
        rw [t1, kcI_s, f68] at e0
        rw [if_neg (fun z => g2 ⟨z.1.2.1, by omega⟩)]
        exact ItM.n ⟨s2, e0, kD s2 k2, KM.of k2⟩
    · obtain ⟨s1, r1, r3⟩ := n2 g1
      rw [r1, kcI_s, w_1, if_pos (by decide), f68] at e0
      rw [if_neg (fun z => g1 ⟨z.1.1, by omega⟩)]
      exact ItM.n ⟨s1, e0, kD s1 r3, KM.of r3⟩
  · rw [if_neg c1]
    by_cases c2 : d 6 p = 98
    · rw [if_pos c2]
      rw [if_pos (show ((d 6 p : Nat) : Int) = 98 by omega)] at e0
      have f140 : ∀ (σ1 : Sg) (x2 : Int), Run 88 140 [vR 40, vI ((d 6 p : Nat) : Int), vI x2, vJ, vJ] [vI (-1)] σ1 = some (vI 0, σ1) := fun σ1 x2 => by
        rw [q88_140, w_1, if_pos (by decide), if_pos (Or.inl rfl)]
      obtain ⟨n1, n2⟩ := m_num (j := p + 1) (e := 44) (hi := 15) hO hT ha (by omega) (by decide) (by decide)
      have e0 : Cal 88 [vR 40, vI ((d 6 p : Nat) : Int)] σ = kcI (Cal 87 [vR 40, vI 15, vI ((44 : Nat) : Int)] σ) _ := e0
      by_cases g1 : isN d (p + 1) 44 = true ∧ ((nmb d (p + 1) : Nat) : Int) ≤ 15
      · obtain ⟨s1, r1, r2, r3⟩ := n1 g1
        rw [r1, kcI_s, wr_id (x := ((nmb d (p + 1) : Nat) : Int)) (by omega) (by omega), if_neg (by omega)] at e0
        obtain ⟨m1, m2⟩ := m_num (j := nxt d (p + 1)) (e := 59) (hi := 7) hO (hT.k r3) r2 (by omega) (by decide) (by decide)
        have e0 : Cal 88 [vR 40, vI ((d 6 p : Nat) : Int)] σ = kcI (Cal 87 [vR 40, vI 7, vI ((59 : Nat) : Int)] s1) _ := e0
        by_cases g2 : isN d (nxt d (p + 1)) 59 = true ∧ ((nmb d (nxt d (p + 1)) : Nat) : Int) ≤ 7
        · obtain ⟨s2, t1, t2, t3⟩ := m1 g2
          have k2 : K11 σ s2 := ⟨fun q hq => by rw [t3.1 q hq, r3.1 q hq], fun j hj => by rw [t3.2 j hj, r3.2 j hj]⟩
          have hD2 := kD s2 k2
          have hB := hR.1.2.1
          have hn := hR.1.1
          have hm : D 0 3 ≤ 7 := by have := hR.2.2.2.2.2; omega
          rw [t1, kcI_s, q88_140, wr_id (x := ((nmb d (nxt d (p + 1)) : Nat) : Int)) (by omega) (by omega), if_neg (by omega), wr_1, if_pos (by decide), show (1 : Int).toNat = 1 from rfl, hD2.1.2.1, w8, wr_id (x := ((D 0 1 : Nat) : Int)) (by omega) (by omega)] at e0
          by_cases g4 : D 0 1 < 8
          · have e25 : 25 + ((D 0 1 : Nat) : Int) = ((25 + D 0 1 : Nat) : Int) := by omega
            have ex : ((nmb d (p + 1) : Nat) : Int) + 16 * ((nmb d (nxt d (p + 1)) : Nat) : Int) = ((nmb d (p + 1) + 16 * nmb d (nxt d (p + 1)) : Nat) : Int) := by omega
            rw [if_neg (by omega), if_pos (show (0 : Int) ≤ 1 ∧ (1 : Int) < 40 by decide), e25, wr_id (x := ((25 + D 0 1 : Nat) : Int)) (by omega) (by omega), if_pos (show 0 ≤ ((25 + D 0 1 : Nat) : Int) ∧ ((25 + D 0 1 : Nat) : Int) < 40 by omega), if_pos (show (0 : Int) ≤ 1 ∧ (1 : Int) < 40 by decide), if_pos (show (0 : Int) ≤ 1 ∧ (1 : Int) < 40 by decide), if_pos (Or.inr rfl), toN, ex, up_j, if_neg (by omega), hD2.1.2.1] at e0
            rw [if_pos ⟨⟨g1.1, g2.1⟩, g4, by omega, by omega⟩]
            obtain ⟨⟨d1, d2, d3, d4⟩, d5, d6, d7⟩ := hD2
            refine ItM.s ⟨_, e0, ⟨⟨?_, ?_, ?_, ?_⟩, fun i hi => ⟨?_, ?_, ?_⟩, fun j hj => ?_, fun s hs => ?_⟩, ?_, (KM.of k2).tr (KM.o43 (fun q hq => ?_))⟩
            · rw [aB_0, if_neg (by decide), up_j, if_neg (by decide), up_j, if_neg (by omega), d1]
            · rw [aB_0, if_pos rfl, up_e]; rfl
            · rw [aB_0, if_neg (by decide), up_j, if_neg (by decide), up_j, if_neg (by omega), d3]
            · rw [aB_0, if_neg (by decide), up_j, if_neg (by decide), up_j, if_neg (by omega), d4]
            · rw [aB_0, if_neg (by decide)] at hi
              rw [aB_q (by decide) (by decide), up_j, if_neg (by omega), up_j, if_neg (by omega)]
              exact (d5 i hi).1
            · rw [aB_0, if_neg (by decide)] at hi
              rw [aB_q (by decide) (by decide), up_j, if_neg (by omega), up_j, if_neg (by omega)]
              exact (d5 i hi).2.1
            · rw [aB_0, if_neg (by decide)] at hi
              rw [aB_q (by decide) (by decide), up_j, if_neg (by omega), up_j, if_neg (by omega)]
              exact (d5 i hi).2.2
            · rw [aB_0, if_pos rfl] at hj
              rw [aB_4, up_j, if_neg (by omega), up_j]
              by_cases g : j = D 0 1
              · rw [if_pos (by omega), if_pos g]
              · rw [if_neg (by omega), if_neg g]; exact d6 j (by omega)
            · rw [aB_0, if_neg (by decide)] at hs
              rw [aB_q (by decide) (by decide), up_j, if_neg (by omega), up_j, if_neg (by omega)]
              exact d7 s hs
            · rw [up_p _ _ _ (by decide), up_p _ _ _ (by decide), t2]
            · rw [up_ne hq, up_ne hq]
          · rw [if_pos (by omega), if_pos (Or.inl rfl)] at e0
            rw [if_neg (fun z => g4 z.2.1)]
            exact ItM.n ⟨s2, e0, hD2, KM.of k2⟩
        · obtain ⟨s2, t1, t3⟩ := m2 g2
          have k2 : K11 σ s2 := ⟨fun q hq => by rw [t3.1 q hq, r3.1 q hq], fun j hj => by rw [t3.2 j hj, r3.2 j hj]⟩
          rw [t1, kcI_s, f140] at e0
          rw [if_neg (fun z => g2 ⟨z.1.2, by omega⟩)]
          exact ItM.n ⟨s2, e0, kD s2 k2, KM.of k2⟩
      · obtain ⟨s1, r1, r3⟩ := n2 g1
        rw [r1, kcI_s, w_1, if_pos (by decide), f140] at e0
        rw [if_neg (fun z => g1 ⟨z.1.1, by omega⟩)]
        exact ItM.n ⟨s1, e0, kD s1 r3, KM.of r3⟩
    · rw [if_neg c2]
      by_cases c3 : d 6 p = 115
      · rw [if_pos c3]
        have hn := hR.1.1
        rw [if_neg (show ¬ ((d 6 p : Nat) : Int) = 98 by omega), if_neg (show ¬ ((d 6 p : Nat) : Int) = 103 by omega), if_neg (show ¬ ((d 6 p : Nat) : Int) = 105 by omega), if_pos (show ((d 6 p : Nat) : Int) = 115 by omega), wr_0, if_pos (show (0 : Int) ≤ 0 ∧ (0 : Int) < 40 by decide), Int.toNat_zero, hD.1.1] at e0
        obtain ⟨n1, n2⟩ := m_num (j := p + 1) (e := 59) (hi := ((D 0 0 : Nat) : Int) - 1) hO hT ha (by omega) (by decide) (by omega)
        have e0 : Cal 88 [vR 40, vI ((d 6 p : Nat) : Int)] σ = kcI (Cal 87 [vR 40, vI (((D 0 0 : Nat) : Int) - 1), vI ((59 : Nat) : Int)] σ) _ := e0
        by_cases g1 : isN d (p + 1) 59 = true ∧ ((nmb d (p + 1) : Nat) : Int) ≤ ((D 0 0 : Nat) : Int) - 1
        · obtain ⟨s1, r1, r2, r3⟩ := n1 g1
          obtain ⟨s2, v1, v2, v3⟩ := m_sits hn hR.1.2.1 hR.2.2.2 (kD s1 r3) (show nmb d (p + 1) < D 0 0 by omega)
          rw [r1, kcI_s, wr_id (x := ((nmb d (p + 1) : Nat) : Int)) (by omega) (by omega), if_neg (by omega), v1, kcV_s, if_pos (Or.inr rfl)] at e0
          rw [if_pos ⟨g1.1, by omega⟩]
          exact ItM.s ⟨s2, e0, v2, by rw [v3 40 (by decide), r2], (KM.of r3).tr (KM.o43 v3)⟩
        · obtain ⟨s1, r1, r3⟩ := n2 g1
          rw [r1, kcI_s, w_1, if_pos (by decide), if_pos (Or.inl rfl)] at e0
          rw [if_neg (fun z => g1 ⟨z.1, by omega⟩)]
          exact ItM.n ⟨s1, e0, kD s1 r3, KM.of r3⟩
      · rw [if_neg c3]
        by_cases c4 : d 6 p = 103
        · rw [if_pos c4]
          rw [if_neg (show ¬ ((d 6 p : Nat) : Int) = 98 by omega), if_pos (show ((d 6 p : Nat) : Int) = 103 by omega)] at e0
          obtain ⟨n1, n2⟩ := m_num (j := p + 1) (e := 59) (hi := 5) hO hT ha (by omega) (by decide) (by decide)
          have e0 : Cal 88 [vR 40, vI ((d 6 p : Nat) : Int)] σ = kcI (Cal 87 [vR 40, vI 5, vI ((59 : Nat) : Int)] σ) _ := e0
          by_cases g1 : isN d (p + 1) 59 = true ∧ ((nmb d (p + 1) : Nat) : Int) ≤ 5
          · obtain ⟨s1, r1, r2, r3⟩ := n1 g1
            have hD1 := kD s1 r3
            have l2 : 2 ^ nmb d (p + 1) < 2 ^ 6 := p2_lt (by omega)
            have l3 := hR.1.2.2
            have e1 : bor ((D 0 2 : Nat) : Int) (bsl 1 ((nmb d (p + 1) : Nat) : Int)) = ((D 0 2 ||| 2 ^ nmb d (p + 1) : Nat) : Int) := by
              rw [bsl1_n _ (by omega)]
              exact bor_n _ _ (by omega) (by omega)
            rw [r1, kcI_s, wr_id (x := ((nmb d (p + 1) : Nat) : Int)) (by omega) (by omega), if_neg (by omega), w3, if_pos (show (0 : Int) ≤ 3 ∧ (3 : Int) < 40 by decide), if_pos (show (0 : Int) ≤ 3 ∧ (3 : Int) < 40 by decide), if_pos (Or.inr rfl), show (3 : Int).toNat = 3 from rfl, hD1.1.2.2.1, e1] at e0
            rw [if_pos ⟨g1.1, by omega⟩]
            have hB := hR.1.2.1
            have hn := hR.1.1
            have hm : D 0 3 ≤ 7 := by have := hR.2.2.2.2.2; omega
            obtain ⟨⟨d1, d2, d3, d4⟩, d5, d6, d7⟩ := hD1
            refine ItM.s ⟨_, e0, ⟨⟨?_, ?_, ?_, ?_⟩, fun i hi => ⟨?_, ?_, ?_⟩, fun j hj => ?_, fun s hs => ?_⟩, ?_, (KM.of r3).tr (KM.o43 (fun q hq => ?_))⟩
            · rw [aG_0, if_neg (by decide), up_j, if_neg (by decide), d1]
            · rw [aG_0, if_neg (by decide), up_j, if_neg (by decide), d2]
            · rw [aG_0, if_pos rfl, up_e]
            · rw [aG_0, if_neg (by decide), up_j, if_neg (by decide), d4]
            · rw [aG_0, if_neg (by decide)] at hi
              rw [aG_q (by decide), up_j, if_neg (by omega)]
              exact (d5 i hi).1
            · rw [aG_0, if_neg (by decide)] at hi
              rw [aG_q (by decide), up_j, if_neg (by omega)]
              exact (d5 i hi).2.1
            · rw [aG_0, if_neg (by decide)] at hi
              rw [aG_q (by decide), up_j, if_neg (by omega)]
              exact (d5 i hi).2.2
            · rw [aG_0, if_neg (by decide)] at hj
              rw [aG_q (by decide), up_j, if_neg (by omega)]
              exact d6 j hj
            · rw [aG_0, if_neg (by decide)] at hs
              rw [aG_q (by decide), up_j, if_neg (by omega)]
              exact d7 s hs
            · rw [up_p _ _ _ (by decide), r2]
            · rw [up_ne hq]
          · obtain ⟨s1, r1, r3⟩ := n2 g1
            rw [r1, kcI_s, w_1, if_pos (by decide), if_pos (Or.inl rfl)] at e0
            rw [if_neg (fun z => g1 ⟨z.1, by omega⟩)]
            exact ItM.n ⟨s1, e0, kD s1 r3, KM.of r3⟩
        · rw [if_neg c4]
          rw [if_neg (show ¬ ((d 6 p : Nat) : Int) = 98 by omega), if_neg (show ¬ ((d 6 p : Nat) : Int) = 103 by omega), if_neg (show ¬ ((d 6 p : Nat) : Int) = 105 by omega), if_neg (show ¬ ((d 6 p : Nat) : Int) = 115 by omega), if_pos (Or.inl rfl)] at e0
          exact ItM.n ⟨σ, e0, hD, KM.rf σ⟩
theorem rdIt_le {d D : Dt} {p : Nat} {eD : Nat × Dt} (hr : rdIt d p D = some eD) : eD.1 ≤ p + 10 := by
  have b1 := nxt_le d (p + 1)
  have b2 := nxt_le d (nxt d (p + 1))
  have b3 := nxt_le d (nxt d (nxt d (p + 1)))
  unfold rdIt at hr
  split at hr
  · split at hr
    · rw [Option.some.injEq] at hr; rw [← hr]; show nxt d (nxt d (nxt d (p + 1))) ≤ _; omega
    · cases hr
  · split at hr
    · split at hr
      · rw [Option.some.injEq] at hr; rw [← hr]; show nxt d (nxt d (p + 1)) ≤ _; omega
      · cases hr
    · split at hr
      · split at hr
        · rw [Option.some.injEq] at hr; rw [← hr]; show nxt d (p + 1) ≤ _; omega
        · cases hr
      · split at hr
        · split at hr
          · rw [Option.some.injEq] at hr; rw [← hr]; show nxt d (p + 1) ≤ _; omega
          · cases hr
        · cases hr
theorem m_read_loop {d : Dt} (hO : OkD d) : ∀ (r p : Nat) (D : Dt) (x1 : AV) (σ : Sg), dL d ≤ p + r → p < 2000 → TextM σ d → σ 40 11 = (p : Int) → OkR D → DrM σ D → ∃ σ', Run 89 9 [vR 40, x1] [] σ = some (vI (rdAll d r p D).1, σ') ∧ KM σ σ' ∧ DrM σ' (rdAll d r p D).2 ∧ OkR (rdAll d r p D).2 := by
  intro r
  have hL := hO.1.2.2.2.2.2.1
  have fin : ∀ (r p : Nat) (D : Dt) (x1 : AV) (σ : Sg), dL d ≤ p → p < 2000 → TextM σ d → σ 40 11 = (p : Int) → OkR D → DrM σ D → ∃ σ', Run 89 9 [vR 40, x1] [] σ = some (vI (rdAll d r p D).1, σ') ∧ KM σ σ' ∧ DrM σ' (rdAll d r p D).2 ∧ OkR (rdAll d r p D).2 := fun r p D x1 σ hp hp2 hT ha hR hD => by
    rw [rdAll_e hp r]
    refine ⟨σ, ?_, KM.rf σ, hD, hR⟩
    rw [q89_9, ha, hT.1, wr_id (x := (p : Int)) (by omega) (by omega), wr_id (x := (dL d : Int)) (by omega) (by omega), if_neg (by omega)]
  induction r with
  | zero => exact fun p D x1 σ h hp2 hT ha hR hD => fin 0 p D x1 σ (by omega) hp2 hT ha hR hD
  | succ r ih =>
    intro p D x1 σ h hp2 hT ha hR hD
    by_cases hp : p < dL d
    · obtain ⟨X, hX⟩ : ∃ X, X = up σ 40 11 ((p : Int) + 1) := ⟨_, rfl⟩
      have kX : K11 σ X := by rw [hX]; exact (K11.rf σ).u
      have e0 := q89_9 x1 σ
      rw [ha, hT.1, wr_id (x := (p : Int)) (by omega) (by omega), wr_id (x := (dL d : Int)) (by omega) (by omega), if_pos (show (p : Int) < (dL d : Int) by omega), if_pos (show 0 ≤ (p : Int) ∧ (p : Int) < 200 by omega), toN, ← hX, kX.1 41 (by decide), hT.2 p hp] at e0
      obtain ⟨i1, i2⟩ := m_it hO (hT.k kX) hp (by rw [hX, up_e]; rfl) hR (hD.k (kX.1 43 (by decide)))
      rcases hr : rdIt d p D with _ | eD
      · obtain ⟨σ', t1, t2, t3⟩ := i2 hr
        rw [rdAll_n hp hr]
        rw [t1, kcI_s, wr_0, if_pos rfl] at e0
        exact ⟨σ', e0, (KM.of kX).tr t3, t2, hR⟩
      · obtain ⟨s1, t1, t2, t3, t4⟩ := i1 eD hr
        obtain ⟨g1, g2⟩ := rdIt_ok hR (show rdIt d p D = some (eD.1, eD.2) from hr)
        have g3 := rdIt_le hr
        have k1 : KM σ s1 := (KM.of kX).tr t4
        obtain ⟨σ', u1, u2, u3, u4⟩ := ih eD.1 eD.2 (vI (p : Int)) s1 (by omega) (by omega) (hT.km k1) t3 g1 t2
        rw [rdAll_s hp hr]
        rw [t1, kcI_s, wr_1, if_neg (by decide)] at e0
        exact ⟨σ', e0.trans u1, k1.tr u2, u3, u4⟩
    · exact fin (r + 1) p D x1 σ (by omega) hp2 hT ha hR hD
theorem m_reads {d : Dt} {σ : Sg} (hO : OkD d) (hT : TextM σ d) : ∃ σ', Cal 89 [vR 40] σ = some (vI (rdA d).1, σ') ∧ KM σ σ' ∧ DrM σ' (rdA d).2 ∧ OkR (rdA d).2 := by
  have hL := hO.1.2.2.2.2.2.1
  have e0 : Cal 89 [vR 40] σ = _ := q89_0 σ
  obtain ⟨s1, a1, a2, a3⟩ := m_begins σ
  have k1 : KM σ (up s1 40 11 0) := ⟨fun q q1 q2 => by rw [up_ne q1, a3 q q2], fun j hj => by rw [up_j, if_neg hj, a3 40 (by decide)]⟩
  rw [a1, kcV_s] at e0
  obtain ⟨σ', u1, u2, u3, u4⟩ := m_read_loop hO 200 0 D0 vJ (up s1 40 11 0) (by omega) (by decide) (hT.km k1) (up_e _ _ _ _) OkR.D0 (a2.k (up_ne (by decide)))
  exact ⟨σ', e0.trans u1, k1.tr u2, u3, u4⟩
-- fault
theorem InvC.tx {σ σ' : Sg} {d : Dt} (h : InvC σ d) (k : FrT σ σ') : InvC σ' d := by
  have hq : ∀ q, q < 13 ∨ 19 < q → σ' q = σ q := k
  have h10 : ∀ j, j < 2 → σ' (8 + j) = σ (8 + j) := fun j hj => hq _ (by omega)
  obtain ⟨⟨a1, a2, a3⟩, ⟨b1, b2⟩, ⟨c1, c2, c3, c4⟩, ⟨e1, e2⟩, ⟨f1, f2⟩, ⟨g1, g0, g2⟩, ⟨u1, u2⟩, s⟩ := h
  refine ⟨⟨a1.kept (hq _ (by decide)) (hq _ (by decide)) (hq _ (by decide)) (hq _ (by decide)), fun i hi => by rw [hq _ (by decide)]; exact a2 i hi, by rw [hq _ (by decide)]; exact a3⟩, ⟨b1.kept (hq _ (by decide)), by rw [hq _ (by decide)]; exact b2⟩, ⟨by rw [hq _ (by decide)]; exact c1, by rw [hq _ (by decide)]; exact c2, fun j hj => by rw [hq _ (by decide)]; exact c3 j hj, fun i hi => by rw [hq _ (by decide)]; exact c4 i hi⟩, ⟨by rw [hq _ (by decide)]; exact e1, fun j hj => by rw [hq _ (by decide)]; exact e2 j hj⟩, ⟨by rw [hq _ (by decide)]; exact f1, fun j hj => by rw [hq 4 (by decide), hq 5 (by decide), hq 6 (by decide)]; exact f2 j hj⟩, ⟨by rw [hq _ (by decide)]; exact g1, g0, fun j hj => ?_⟩, ⟨by rw [hq _ (by decide)]; exact u1, fun j hj => by rw [hq 3 (by decide)]; exact u2 j hj⟩, ?_⟩
  · obtain ⟨x, y⟩ := g2 j hj
    refine ⟨?_, by rw [hq 10 (by decide)]; exact y⟩
    exact x.kept (h10 j (by omega))
  · unfold SurvI SurvK
    rw [hq 29 (by decide), hq 31 (by decide)]
    rcases s with s | ⟨s1, s2, s3, s4, s5, s6, s7, s8⟩
    · exact Or.inl s
    · exact Or.inr ⟨s1, s2, s3, s4, s5, s6, fun hk => (s7 hk).kept (hq _ (by decide)), s8⟩
def r_fault (d : Dt) : Int := (rdA d).1
theorem c_fault {d : Dt} {σ : Sg} (hO : OkD d) (hI : InvC σ d) : ∃ σ', Cal 35 [vR 0] σ = some (vI (r_fault d), σ') ∧ InvC σ' d ∧ FrC σ σ' := by
  have e0 : Cal 35 [vR 0] σ = _ := q35_0 σ
  obtain ⟨s1, a1, a2, a3⟩ := c_readAll hO hI.2.2.2.1
  rw [a1, kcI_s] at e0
  exact ⟨s1, e0, hI.tx a2, fun q hq => a2 q (by omega)⟩
theorem InvM.km {σ σ' : Sg} {d : Dt} (h : InvM σ d) (k : KM σ σ') : InvM σ' d := h.kept (k.1 _ (by decide) (by decide)) (k.1 _ (by decide) (by decide)) (k.1 _ (by decide) (by decide)) (k.1 _ (by decide) (by decide)) (k.1 _ (by decide) (by decide)) (k.1 _ (by decide) (by decide)) (k.2 _ (by decide)) (k.2 _ (by decide)) (k.2 _ (by decide)) (k.2 _ (by decide))
theorem InvM.tx {σ : Sg} {d : Dt} (h : InvM σ d) : TextM σ d := h.2.2.2.2.1
theorem m_fault {d : Dt} {σ : Sg} (hO : OkD d) (hM : InvM σ d) : ∃ σ', Cal 90 [vR 40] σ = some (vI (r_fault d), σ') ∧ InvM σ' d ∧ FrM σ σ' := by
  have e0 : Cal 90 [vR 40] σ = _ := q90_0 σ
  obtain ⟨s1, a1, a2, a3, a4⟩ := m_reads hO hM.tx
  rw [a1, kcI_s] at e0
  exact ⟨s1, e0, hM.km a2, fun q hq => a2.1 q (by omega) (by omega)⟩
