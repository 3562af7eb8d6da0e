/-! kinds in the reference, to its end -/
theorem m_kinds_loop {d : Dt} {a : Nat} (hO : OkD d) (ha : a < dn d) : ∀ (r k : Nat) (x4 x5 : AV) (σ : Sg), k + r = 4 → InvM σ d → (Rep σ 48 (dn d) (d 5) ∧ (∀ i, i < dn d → i ≠ a → σ 50 i = ((d 1 i : Nat) : Int)) ∧ σ 40 16 = ((andn (db d) (2 ^ a) : Nat) : Int) ∧ σ 40 17 = ((dg d : Nat) : Int) ∧ σ 40 18 = 0) → ∃ σ', Run 125 32 [vR 40, vI a, vI ((kiS d a k : Nat) : Int), vI k, x4, x5] [] σ = some (vI ((kiS d a 4 : Nat) : Int), σ') ∧ InvM σ' d ∧ FrM σ σ'
  | 0, k, x4, x5, σ, h, hM, hG => by
    have hn := hO.1.2.1
    have hk : k = 4 := by omega
    subst hk
    have w4 : wr 4 = 4 := by decide
    refine ⟨σ, ?_, hM, FrM.rf σ⟩
    rw [q125_32, w4, show wr ((4 : Nat) : Int) = 4 from by decide, if_neg (by decide)]
  | r + 1, k, x4, x5, σ, h, hM, hG => by
    have hn := hO.1.2.1
    have hp7 := p2_7 hn
    have hg := hO.1.2.2.2.1
    have hbb := hO.1.2.2.2.2.1
    have w4 : wr 4 = 4 := by decide
    have e0 := q125_32 (a : Int) ((kiS d a k : Nat) : Int) (k : Int) x4 x5 σ
    rw [w4, wr_id (x := (k : Int)) (by omega) (by omega), if_pos (by omega), wr_id (x := (a : Int)) (by omega) (by omega), if_pos (show 0 ≤ (a : Int) ∧ (a : Int) < 7 by omega), toN] at e0
    obtain ⟨X, hX⟩ : ∃ X, X = up σ 50 a (k : Int) := ⟨_, rfl⟩
    rw [← hX] at e0
    have kX : ∀ q, q ≠ 50 → X q = σ q := fun q hq => by rw [hX, up_ne hq]
    have hM1 : InvM X d := hM.kept (kX _ (by decide)) (kX _ (by decide)) (kX _ (by decide)) (kX _ (by decide)) (kX _ (by decide)) (kX _ (by decide)) (by rw [kX 40 (by decide)]) (by rw [kX 40 (by decide)]) (by rw [kX 40 (by decide)]) (by rw [kX 40 (by decide)])
    obtain ⟨g1, g2, g3, g4, g5⟩ := hG
    have hG1 : GoIn X (dn d) (kdD d a k 1) (d 5) (dg d) (andn (db d) (2 ^ a)) 0 := by
      refine ⟨g1.kept (kX 48 (by decide)), fun i hi => ⟨?_, kd_ok hO (by omega) i hi⟩, by rw [kX 40 (by decide)]; exact g3, andn_lt2 hbb, by rw [kX 40 (by decide)]; exact g4, by omega, by rw [kX 40 (by decide)]; exact g5, by decide⟩
      rw [hX, up_j]
      unfold kdD uq
      by_cases c : i = a
      · rw [if_pos c, if_pos ⟨rfl, c⟩]
      · rw [if_neg c, if_neg (fun z => c z.2)]; exact g2 i hi c
    obtain ⟨s2, s1, s3, s4, s5⟩ := go_all hM1.1 hG1 hO.2.2.2.1 hO.1.1
    rw [fun_andn0] at s1 s5
    rw [s1, kcI_s] at e0
    have hM2 : InvM s2 d := go_inv hM1 s3 s4
    have hA := m_agree (x2 := ((kiS d a k : Nat) : Int)) (x3 := (k : Int)) (P := plX d a k) hO hM2.2.2.2.2.2.2.2 (by omega : a < 7) (fun b hb => ⟨by have := plS_lt (dn d) (kdD d a k 1) (d 2) (d 4) (d 5) (dg d) (andn (db d) (2 ^ a)) b; show plS _ _ _ _ _ _ _ b < 128; omega, s5.2.1 b hb⟩) (dh d) 0 (by omega)
    have hA' : Run 125 55 [vR 40, vI a, vI ((kiS d a k : Nat) : Int), vI k, vI 1, vI 0] [] s2 = _ := hA
    have hG2 : Rep s2 48 (dn d) (d 5) ∧ (∀ i, i < dn d → i ≠ a → s2 50 i = ((d 1 i : Nat) : Int)) ∧ s2 40 16 = ((andn (db d) (2 ^ a) : Nat) : Int) ∧ s2 40 17 = ((dg d : Nat) : Int) ∧ s2 40 18 = 0 := by
      refine ⟨g1.kept ?_, fun i hi hia => ?_, ?_, ?_, ?_⟩
      · rw [s3 48 (by decide) (by decide) (by decide), kX 48 (by decide)]
      · rw [s3 50 (by decide) (by decide) (by decide), hX, up_j, if_neg hia]; exact g2 i hi hia
      · rw [s4 16 (by decide), kX 40 (by decide)]; exact g3
      · rw [s4 17 (by decide), kX 40 (by decide)]; exact g4
      · rw [s4 18 (by decide), kX 40 (by decide)]; exact g5
    have lk := kiS_lt d a k
    have lk4 : 2 ^ k < 2 ^ 4 := p2_lt (by omega)
    have fr : ∀ τ : Sg, FrM s2 τ → FrM σ τ := fun τ hf q hq => by rw [hf q hq, s3 q (by omega) (by omega) (by omega), kX q (by omega)]
    by_cases c : ag d a (plX d a k) (dh d) = true
    · have e1 : kiS d a (k + 1) = kiS d a k ||| 2 ^ k := by show _ ||| _ = _; rw [if_pos c]
      rw [if_pos c, bsl1_n k (by omega), bor_n _ _ (by omega) (by omega), ← e1] at hA'
      obtain ⟨σ', t1, t2, t3⟩ := m_kinds_loop hO ha r (k + 1) (vI 1) (vI (dh d)) s2 (by omega) hM2 hG2
      exact ⟨σ', e0.trans (hA'.trans t1), t2, fr _ t3⟩
    · have e1 : kiS d a (k + 1) = kiS d a k := by show _ ||| _ = _; rw [if_neg c, Nat.or_zero]
      have z0 : bor ((kiS d a k : Nat) : Int) 0 = ((kiS d a k : Nat) : Int) := by
        have := bor_n (kiS d a k) 0 (by omega) (by decide)
        rw [Nat.or_zero] at this
        exact this
      rw [if_neg c, z0] at hA'
      obtain ⟨σ', t1, t2, t3⟩ := m_kinds_loop hO ha r (k + 1) (vI 0) (vI (dh d)) s2 (by omega) hM2 hG2
      rw [e1] at t1
      exact ⟨σ', e0.trans (hA'.trans t1), t2, fr _ t3⟩
theorem m_kinds {d : Dt} {σ : Sg} {x : Int} (hO : OkD d) (hM : InvM σ d) (hx : InR x) : ∃ σ', Cal 125 [vR 40, vI x] σ = some (vI (r_kinds d x), σ') ∧ InvM σ' d ∧ FrM σ σ' := by
  have hn := hO.1.2.1
  have hp7 := p2_7 hn
  have hbb := hO.1.2.2.2.2.1
  have e0 : Cal 125 [vR 40, vI x] σ = _ := q125_0 x σ
  unfold r_kinds
  rw [isI_m hM hx, kcI_s] at e0
  by_cases c : 0 ≤ x ∧ x < (dn d : Int)
  · obtain ⟨a, rfl⟩ : ∃ a : Nat, x = (a : Int) := ⟨x.toNat, by omega⟩
    have ha : a < dn d := by omega
    obtain ⟨σ1, a1, a2, a3, a4⟩ := asit hO hM
    rw [if_pos c, wr_1, if_neg (by decide), a1, kcV_s, a3.2.2.1, bsl1_n a (by omega), ban_not _ _ (by omega)] at e0
    rw [if_pos c, toN]
    obtain ⟨σ', t1, t2, t3⟩ := m_kinds_loop hO ha 4 0 vJ vJ (up σ1 40 16 ((andn (db d) (2 ^ a) : Nat) : Int)) (by omega) (a4.u40 (by decide)) ⟨fun i hi => by rw [up_ne (by decide)]; exact a3.1 i hi, fun i hi _ => by rw [up_ne (by decide)]; exact (a3.2.1 i hi).1, up_e _ _ _ _, by rw [up_j, if_neg (by decide)]; exact a3.2.2.2.2.1, by rw [up_j, if_neg (by decide)]; exact a3.2.2.2.2.2.2.1⟩
    exact ⟨σ', e0.trans t1, t2, fun q hq => by rw [t3 q hq, up_ne (by omega), a2 q (by omega) (by omega) (by omega)]⟩
  · rw [if_neg c, wr_0, if_pos rfl] at e0
    rw [if_neg c]
    exact ⟨σ, e0, hM, FrM.rf σ⟩
