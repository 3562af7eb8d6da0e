/-! THE TEXT in the class: all of it -/
def FrT (σ σ' : Sg) : Prop := ∀ q, q < 13 ∨ 19 < q → σ' q = σ q
theorem c_fin {d : Dt} {σ σ1 σ2 : Sg} {p e : Nat} {x2 : AV} (hO : OkD d) (hT : TextI σ d) (hp : p < dL d) (k1 : ∀ q, q ≠ 13 → σ1 q = σ q) (h1 : Cal 20 [vR 11, vI p] σ = some (vI e, σ1)) (hpe : p < e) (he : e < 1000) (h2 : Cal 21 [vR 11, vI ((d 6 p : Nat) : Int)] σ1 = some (vI 1, σ2)) : Run 22 9 [vR 11, vI p, x2] [] σ = Run 22 9 [vR 11, vI e, vI e] [] σ2 := by
  have hL := hO.1.2.2.2.2.2.1
  rw [q22_9, hT.1, wr_id (x := (p : Int)) (by omega) (by omega), wr_id (x := (dL d : Int)) (by omega) (by omega), if_pos (by omega), h1, kcI_s, wr_id (x := (e : Int)) (by omega) (by omega), if_pos (by omega), if_pos (by omega), toN, k1 12 (by decide), hT.2 p hp, h2, kcI_s, wr_1, if_neg (by decide)]
theorem c_fin0 {d : Dt} {σ σ1 σ2 : Sg} {p e : Nat} {x2 : AV} (hO : OkD d) (hT : TextI σ d) (hp : p < dL d) (k1 : ∀ q, q ≠ 13 → σ1 q = σ q) (h1 : Cal 20 [vR 11, vI p] σ = some (vI e, σ1)) (hpe : p < e) (he : e < 1000) (h2 : Cal 21 [vR 11, vI ((d 6 p : Nat) : Int)] σ1 = some (vI 0, σ2)) : Run 22 9 [vR 11, vI p, x2] [] σ = some (vI p, σ2) := by
  have hL := hO.1.2.2.2.2.2.1
  rw [q22_9, hT.1, wr_id (x := (p : Int)) (by omega) (by omega), wr_id (x := (dL d : Int)) (by omega) (by omega), if_pos (by omega), h1, kcI_s, wr_id (x := (e : Int)) (by omega) (by omega), if_pos (by omega), if_pos (by omega), toN, k1 12 (by decide), hT.2 p hp, h2, kcI_s, wr_0, if_pos rfl]
theorem c_fin1 {d : Dt} {σ σ1 : Sg} {p : Nat} {x2 : AV} (hO : OkD d) (hT : TextI σ d) (hp : p < dL d) (h1 : Cal 20 [vR 11, vI p] σ = some (vI p, σ1)) : Run 22 9 [vR 11, vI p, x2] [] σ = some (vI p, σ1) := by
  have hL := hO.1.2.2.2.2.2.1
  rw [q22_9, hT.1, wr_id (x := (p : Int)) (by omega) (by omega), wr_id (x := (dL d : Int)) (by omega) (by omega), if_pos (by omega), h1, kcI_s, wr_id (x := (p : Int)) (by omega) (by omega), if_neg (by omega)]
theorem isN_f {d : Dt} {j e : Nat} (h : isN d j e = true) : nmb d j ≤ 99 := nmb_le (isN_iff.mp h).1
theorem FrT.of {σ σ1 σ2 : Sg} (k1 : ∀ q, q ≠ 13 → σ1 q = σ q) (k2 : FrD σ1 σ2) : FrT σ σ2 := fun q hq => by rw [k2 q (by omega), k1 q (by omega)]
theorem FrT.o1 {σ σ1 : Sg} (k1 : ∀ q, q ≠ 13 → σ1 q = σ q) : FrT σ σ1 := fun q hq => k1 q (by omega)
def ItC (d D : Dt) (σ : Sg) (p : Nat) (x2 : AV) (o : Option (Nat × Dt)) : Prop := (∀ eD, o = some eD → ∃ σ', Run 22 9 [vR 11, vI p, x2] [] σ = Run 22 9 [vR 11, vI eD.1, vI eD.1] [] σ' ∧ DrC σ' eD.2 ∧ FrT σ σ') ∧ (o = none → ∃ σ', Run 22 9 [vR 11, vI p, x2] [] σ = some (vI p, σ') ∧ FrT σ σ')
theorem ItC.s {d D : Dt} {σ : Sg} {p : Nat} {x2 : AV} {e : Nat} {D' : Dt} (h : ∃ σ', Run 22 9 [vR 11, vI p, x2] [] σ = Run 22 9 [vR 11, vI e, vI e] [] σ' ∧ DrC σ' D' ∧ FrT σ σ') : ItC d D σ p x2 (some (e, D')) := ⟨fun eD hs => by
  rw [Option.some.injEq] at hs
  rw [← hs]
  exact h, fun hn => by cases hn⟩
theorem ItC.n {d D : Dt} {σ : Sg} {p : Nat} {x2 : AV} (h : ∃ σ', Run 22 9 [vR 11, vI p, x2] [] σ = some (vI p, σ') ∧ FrT σ σ') : ItC d D σ p x2 none := ⟨fun eD hs => (by cases hs), fun _ => h⟩
theorem c_it {d D : Dt} {σ : Sg} {p : Nat} {x2 : AV} (hO : OkD d) (hT : TextI σ d) (hp : p < dL d) (hR : OkR D) (hD : DrC σ D) : ItC d D σ p x2 (rdIt d p D) := by
  have hL := hO.1.2.2.2.2.2.1
  have w0 : wr 0 = 0 := wr_0
  have w2 : wr 2 = 2 := by decide
  have b1 := nxt_le d (p + 1)
  have b2 := nxt_le d (nxt d (p + 1))
  have b3 := nxt_le d (nxt d (nxt d (p + 1)))
  have hlt := hO.2.2.2.2.1 p hp
  have wc : wr ((d 6 p : Nat) : Int) = ((d 6 p : Nat) : Int) := wr_id (by omega) (by omega)
  have kD : ∀ σ1 : Sg, (∀ q, q ≠ 13 → σ1 q = σ q) → DrC σ1 D := fun σ1 k1 => hD.k (fun q q1 q2 => k1 q (by omega))
  unfold rdIt
  by_cases c1 : d 6 p = 105
  · rw [if_pos c1]
    obtain ⟨s1, k1, i1, i2⟩ := c_item3 hO hT hp c1
    by_cases cf : isN d (p + 1) 44 = true ∧ isN d (nxt d (p + 1)) 44 = true ∧ isN d (nxt d (nxt d (p + 1))) 59 = true
    · obtain ⟨j1, j2, j3, j4⟩ := i1 cf
      have ec : ∀ (y : Int) (σ2 : Sg), (y = 0 ∨ y = 1) → Cal 2 [vR 14, vI ((nmb d (p + 1) : Nat) : Int), vI ((nmb d (nxt d (p + 1)) : Nat) : Int), vI ((nmb d (nxt d (nxt d (p + 1))) : Nat) : Int)] s1 = some (vI y, σ2) → Cal 21 [vR 11, vI ((d 6 p : Nat) : Int)] s1 = some (vI y, σ2) := fun y σ2 hy hc => by
        have e0 : Cal 21 [vR 11, vI ((d 6 p : Nat) : Int)] s1 = _ := q21_0 ((d 6 p : Nat) : Int) s1
        rw [wc, wr_0, wr_1, w2, if_neg (show ¬ ((d 6 p : Nat) : Int) = 98 by omega), if_neg (show ¬ ((d 6 p : Nat) : Int) = 103 by omega), if_pos (show ((d 6 p : Nat) : Int) = 105 by omega), if_pos (by decide), if_pos (by decide), if_pos (by decide), Int.toNat_zero, show (1 : Int).toNat = 1 from rfl, show (2 : Int).toNat = 2 from rfl, j2, j3, j4, hc, kcI_s, if_pos hy] at e0
        exact e0
      obtain ⟨a1, a2⟩ := c_addI hR (kD s1 k1) (isN_f cf.1) (isN_f cf.2.1) (isN_f cf.2.2)
      by_cases cb : D 0 0 < 7 ∧ nmb d (p + 1) < 4 ∧ nmb d (nxt d (p + 1)) < 7 ∧ nmb d (nxt d (nxt d (p + 1))) ≤ 30
      · rw [if_pos ⟨cf, cb⟩]
        obtain ⟨s2, t1, t2, t3⟩ := a1 cb
        exact ItC.s ⟨s2, c_fin hO hT hp k1 j1 (by omega) (by omega) (ec 1 s2 (Or.inr rfl) t1), t2, FrT.of k1 t3⟩
      · rw [if_neg (fun z => cb z.2)]
        exact ItC.n ⟨s1, c_fin0 hO hT hp k1 j1 (by omega) (by omega) (ec 0 s1 (Or.inl rfl) (a2 cb)), FrT.o1 k1⟩
    · rw [if_neg (fun z => cf z.1)]
      exact ItC.n ⟨s1, c_fin1 hO hT hp (i2 cf), FrT.o1 k1⟩
  · rw [if_neg c1]
    by_cases c2 : d 6 p = 98
    · rw [if_pos c2]
      obtain ⟨s1, k1, i1, i2⟩ := c_item2 hO hT hp c2
      by_cases cf : isN d (p + 1) 44 = true ∧ isN d (nxt d (p + 1)) 59 = true
      · obtain ⟨j1, j2, j3⟩ := i1 cf
        have ec : ∀ (y : Int) (σ2 : Sg), (y = 0 ∨ y = 1) → Cal 3 [vR 14, vI ((nmb d (p + 1) : Nat) : Int), vI ((nmb d (nxt d (p + 1)) : Nat) : Int)] s1 = some (vI y, σ2) → Cal 21 [vR 11, vI ((d 6 p : Nat) : Int)] s1 = some (vI y, σ2) := fun y σ2 hy hc => by
          have e0 : Cal 21 [vR 11, vI ((d 6 p : Nat) : Int)] s1 = _ := q21_0 ((d 6 p : Nat) : Int) s1
          rw [wc, wr_0, wr_1, w2, if_pos (show ((d 6 p : Nat) : Int) = 98 by omega), if_pos (by decide), if_pos (by decide), Int.toNat_zero, show (1 : Int).toNat = 1 from rfl, j2, j3, hc, kcI_s, if_pos hy] at e0
          exact e0
        obtain ⟨a1, a2⟩ := c_addB hR (kD s1 k1) (isN_f cf.1) (isN_f cf.2)
        by_cases cb : D 0 1 < 8 ∧ nmb d (p + 1) ≤ 15 ∧ nmb d (nxt d (p + 1)) ≤ 7
        · rw [if_pos ⟨cf, cb⟩]
          obtain ⟨s2, t1, t2, t3⟩ := a1 cb
          exact ItC.s ⟨s2, c_fin hO hT hp k1 j1 (by omega) (by omega) (ec 1 s2 (Or.inr rfl) t1), t2, FrT.of k1 t3⟩
        · rw [if_neg (fun z => cb z.2)]
          exact ItC.n ⟨s1, c_fin0 hO hT hp k1 j1 (by omega) (by omega) (ec 0 s1 (Or.inl rfl) (a2 cb)), FrT.o1 k1⟩
      · rw [if_neg (fun z => cf z.1)]
        exact ItC.n ⟨s1, c_fin1 hO hT hp (i2 cf), FrT.o1 k1⟩
    · rw [if_neg c2]
      by_cases c3 : d 6 p = 115
      · rw [if_pos c3]
        obtain ⟨s1, k1, i1, i2⟩ := c_item1 hO hT hp (Or.inl c3)
        by_cases cf : isN d (p + 1) 59 = true
        · obtain ⟨j1, j2⟩ := i1 cf
          have ec : ∀ (y : Int) (σ2 : Sg), (y = 0 ∨ y = 1) → Cal 5 [vR 14, vI ((nmb d (p + 1) : Nat) : Int)] s1 = some (vI y, σ2) → Cal 21 [vR 11, vI ((d 6 p : Nat) : Int)] s1 = some (vI y, σ2) := fun y σ2 hy hc => by
            have e0 : Cal 21 [vR 11, vI ((d 6 p : Nat) : Int)] s1 = _ := q21_0 ((d 6 p : Nat) : Int) s1
            rw [wc, wr_0, wr_1, w2, if_neg (show ¬ ((d 6 p : Nat) : Int) = 98 by omega), if_neg (show ¬ ((d 6 p : Nat) : Int) = 103 by omega), if_neg (show ¬ ((d 6 p : Nat) : Int) = 105 by omega), if_pos (show ((d 6 p : Nat) : Int) = 115 by omega), if_pos (by decide), Int.toNat_zero, j2, hc, kcI_s, if_pos hy] at e0
            exact e0
          obtain ⟨a1, a2⟩ := c_addS hR (kD s1 k1) (isN_f cf)
          by_cases cb : nmb d (p + 1) < D 0 0
          · rw [if_pos ⟨cf, cb⟩]
            obtain ⟨s2, t1, t2, t3⟩ := a1 cb
            exact ItC.s ⟨s2, c_fin hO hT hp k1 j1 (by omega) (by omega) (ec 1 s2 (Or.inr rfl) t1), t2, FrT.of k1 t3⟩
          · rw [if_neg (fun z => cb z.2)]
            exact ItC.n ⟨s1, c_fin0 hO hT hp k1 j1 (by omega) (by omega) (ec 0 s1 (Or.inl rfl) (a2 cb)), FrT.o1 k1⟩
        · rw [if_neg (fun z => cf z.1)]
          exact ItC.n ⟨s1, c_fin1 hO hT hp (i2 cf), FrT.o1 k1⟩
      · rw [if_neg c3]
        by_cases c4 : d 6 p = 103
        · rw [if_pos c4]
          obtain ⟨s1, k1, i1, i2⟩ := c_item1 hO hT hp (Or.inr c4)
          by_cases cf : isN d (p + 1) 59 = true
          · obtain ⟨j1, j2⟩ := i1 cf
            have ec : ∀ (y : Int) (σ2 : Sg), (y = 0 ∨ y = 1) → Cal 6 [vR 14, vI ((nmb d (p + 1) : Nat) : Int)] s1 = some (vI y, σ2) → Cal 21 [vR 11, vI ((d 6 p : Nat) : Int)] s1 = some (vI y, σ2) := fun y σ2 hy hc => by
              have e0 : Cal 21 [vR 11, vI ((d 6 p : Nat) : Int)] s1 = _ := q21_0 ((d 6 p : Nat) : Int) s1
              rw [wc, wr_0, wr_1, w2, if_neg (show ¬ ((d 6 p : Nat) : Int) = 98 by omega), if_pos (show ((d 6 p : Nat) : Int) = 103 by omega), if_pos (by decide), Int.toNat_zero, j2, hc, kcI_s, if_pos hy] at e0
              exact e0
            obtain ⟨a1, a2⟩ := c_addG hR (kD s1 k1) (isN_f cf)
            by_cases cb : nmb d (p + 1) ≤ 5
            · rw [if_pos ⟨cf, cb⟩]
              obtain ⟨s2, t1, t2, t3⟩ := a1 cb
              exact ItC.s ⟨s2, c_fin hO hT hp k1 j1 (by omega) (by omega) (ec 1 s2 (Or.inr rfl) t1), t2, FrT.of k1 t3⟩
            · rw [if_neg (fun z => cb z.2)]
              exact ItC.n ⟨s1, c_fin0 hO hT hp k1 j1 (by omega) (by omega) (ec 0 s1 (Or.inl rfl) (a2 cb)), FrT.o1 k1⟩
          · rw [if_neg (fun z => cf z.1)]
            exact ItC.n ⟨s1, c_fin1 hO hT hp (i2 cf), FrT.o1 k1⟩
        · rw [if_neg c4]
          exact ItC.n ⟨σ, c_fin1 hO hT hp (c_item0 hO hT hp c1 c2 c3 c4), fun _ _ => rfl⟩
theorem rdAll_s {d : Dt} {r p : Nat} {D : Dt} {eD : Nat × Dt} (hp : p < dL d) (h : rdIt d p D = some eD) : rdAll d (r + 1) p D = rdAll d r eD.1 eD.2 := by
  show (if p < dL d then _ else _) = _
  rw [if_pos hp, h]
theorem rdAll_n {d : Dt} {r p : Nat} {D : Dt} (hp : p < dL d) (h : rdIt d p D = none) : rdAll d (r + 1) p D = ((p : Int), D) := by
  show (if p < dL d then _ else _) = _
  rw [if_pos hp, h]
theorem rdAll_e {d : Dt} {p : Nat} {D : Dt} (hp : dL d ≤ p) : ∀ r, rdAll d r p D = (-4, D)
  | 0 => rfl
  | r + 1 => by
    show (if p < dL d then _ else _) = _
    rw [if_neg (by omega)]
theorem c_read_loop {d : Dt} (hO : OkD d) : ∀ (r p : Nat) (D : Dt) (x2 : AV) (σ : Sg), dL d ≤ p + r → p < 2000 → TextI σ d → OkR D → DrC σ D → ∃ σ', Run 22 9 [vR 11, vI p, x2] [] σ = some (vI (rdAll d r p D).1, σ') ∧ FrT σ σ' ∧ ((rdAll d r p D).1 = -4 → DrC σ' (rdAll d r p D).2 ∧ OkR (rdAll d r p D).2) := by
  intro r
  have hL := hO.1.2.2.2.2.2.1
  have fin : ∀ (r p : Nat) (D : Dt) (x2 : AV) (σ : Sg), dL d ≤ p → p < 2000 → TextI σ d → OkR D → DrC σ D → ∃ σ', Run 22 9 [vR 11, vI p, x2] [] σ = some (vI (rdAll d r p D).1, σ') ∧ FrT σ σ' ∧ ((rdAll d r p D).1 = -4 → DrC σ' (rdAll d r p D).2 ∧ OkR (rdAll d r p D).2) := fun r p D x2 σ hp hp2 hT hR hD => by
    rw [rdAll_e hp r]
    refine ⟨σ, ?_, fun _ _ => rfl, fun _ => ⟨hD, hR⟩⟩
    rw [q22_9, hT.1, wr_id (x := (p : Int)) (by omega) (by omega), wr_id (x := (dL d : Int)) (by omega) (by omega), if_neg (by omega)]
  induction r with
  | zero => exact fun p D x2 σ h hp2 hT hR hD => fin 0 p D x2 σ (by omega) hp2 hT hR hD
  | succ r ih =>
    intro p D x2 σ h hp2 hT hR hD
    by_cases hp : p < dL d
    · obtain ⟨i1, i2⟩ := c_it (x2 := x2) hO hT hp hR hD
      rcases hr : rdIt d p D with _ | eD
      · obtain ⟨σ', t1, t2⟩ := i2 hr
        rw [rdAll_n hp hr]
        exact ⟨σ', t1, t2, fun z => by
          have : (p : Int) = -4 := z
          omega⟩
      · obtain ⟨s1, t1, t2, t3⟩ := i1 eD hr
        obtain ⟨g1, g2⟩ := rdIt_ok hR (show rdIt d p D = some (eD.1, eD.2) from hr)
        have g3 : eD.1 ≤ p + 10 := by
          have b1 := nxt_le d (p + 1)
          have b2 := nxt_le d (nxt d (p + 1))
          have b3 := nxt_le d (nxt d (nxt d (p + 1)))
          unfold rdIt at hr
          split at hr
          · split at hr
            · rw [Option.some.injEq] at hr; rw [← hr]; show nxt d (nxt d (nxt d (p + 1))) ≤ _; omega
            · cases hr
          · split at hr
            · split at hr
              · rw [Option.some.injEq] at hr; rw [← hr]; show nxt d (nxt d (p + 1)) ≤ _; omega
              · cases hr
            · split at hr
              · split at hr
                · rw [Option.some.injEq] at hr; rw [← hr]; show nxt d (p + 1) ≤ _; omega
                · cases hr
              · split at hr
                · split at hr
                  · rw [Option.some.injEq] at hr; rw [← hr]; show nxt d (p + 1) ≤ _; omega
                  · cases hr
                · cases hr
        obtain ⟨σ', u1, u2, u3⟩ := ih eD.1 eD.2 (vI eD.1) s1 (by omega) (by omega) (hT.k (t3 11 (by decide)) (t3 12 (by decide))) g1 t2
        rw [rdAll_s hp hr]
        exact ⟨σ', t1.trans u1, fun q hq => by rw [u2 q hq, t3 q hq], u3⟩
    · exact fin (r + 1) p D x2 σ (by omega) hp2 hT hR hD
def rdA (d : Dt) : Int × Dt := rdAll d 200 0 D0
theorem c_readAll {d : Dt} {σ : Sg} (hO : OkD d) (hT : TextI σ d) : ∃ σ', Cal 22 [vR 11] σ = some (vI (rdA d).1, σ') ∧ FrT σ σ' ∧ ((rdA d).1 = -4 → DrC σ' (rdA d).2 ∧ OkR (rdA d).2) := by
  have hL := hO.1.2.2.2.2.2.1
  have e0 : Cal 22 [vR 11] σ = _ := q22_0 σ
  have e1 : Cal 0 [vR 14] σ = _ := q0_0 σ
  obtain ⟨X, hX⟩ : ∃ X, X = up (up (up (up σ 14 3 0) 14 5 0) 14 7 0) 14 8 0 := ⟨_, rfl⟩
  rw [← hX] at e1
  have kX : ∀ q, q ≠ 14 → X q = σ q := fun q hq => by rw [hX, up_ne hq, up_ne hq, up_ne hq, up_ne hq]
  have hD : DrC X D0 := by
    refine ⟨⟨?_, ?_, ?_, ?_⟩, fun i hi => absurd hi (Nat.not_lt_zero i), fun i hi => absurd hi (Nat.not_lt_zero i), fun i hi => absurd hi (Nat.not_lt_zero i)⟩
    all_goals (rw [hX]; simp [up_at, D0])
  rw [e1, kcV_s] at e0
  obtain ⟨σ', u1, u2, u3⟩ := c_read_loop hO 200 0 D0 vJ X (by omega) (by decide) (hT.k (kX 11 (by decide)) (kX 12 (by decide))) OkR.D0 hD
  exact ⟨σ', e0.trans u1, fun q hq => by rw [u2 q hq, kX q (by omega)], u3⟩
