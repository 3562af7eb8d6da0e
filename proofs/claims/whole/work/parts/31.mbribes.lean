/-! bribes in the reference -/
theorem pl_all {n : Nat} {kk mm aa ss : Nat → Nat} {g b : Nat} (ha : aa b < 2 ^ n) : plS n kk mm aa ss g (2 ^ n - 1) b = aa b := by
  rw [plS_eq]
  unfold nowS
  rw [← mk_self ha]
  refine mk_ext (fun i hi => ?_)
  have h1 : (2 ^ n - 1).testBit i = true := by rw [Nat.testBit_two_pow_sub_one]; simp [hi]
  unfold wantsS
  rw [h1, mk_self ha]
  simp
theorem wh_all {n B : Nat} {kk mm aa ss : Nat → Nat} {g : Nat} (ha : ∀ b, b < B → aa b < 2 ^ n) : ∀ b, b ≤ B → whS n kk mm aa ss g (2 ^ n - 1) b = b
  | 0, _ => rfl
  | b + 1, h => by
    unfold whS
    rw [wh_all ha b (by omega), pl_all (ha b (by omega)), if_pos rfl]
theorem wB_all {d : Dt} (hO : OkD d) : wB d (2 ^ dn d - 1) = true := by
  unfold wB
  rw [whX_0, wh_all hO.2.2.1 (dB d) (Nat.le_refl _), beq_self_eq_true]
theorem m_bribes_loop {d : Dt} {x : Int} (hO : OkD d) (hx : InR x) : ∀ (k b bb0 : Nat) (σ : Sg), k ≤ 2 ^ dn d → b < 2 ^ dn d → Bst d k (2 ^ dn d) b → InvM σ d → GoIn σ (dn d) (d 1) (d 5) (dg d) bb0 0 → ∃ σ' b', Run 116 28 [vR 40, vI x, vI b, vI ((k : Int) - 1)] [] σ = some (vI (if x = 0 then ((b' : Nat) : Int) else ((pB d b' : Nat) : Int)), σ') ∧ b' < 2 ^ dn d ∧ Bst d 0 (2 ^ dn d) b' ∧ InvM σ' d ∧ FrM σ σ'
  | 0, b, bb0, σ, hk, hb, hJ, hM, hG => by
    have hn := hO.1.2.1
    have hp7 := p2_7 hn
    refine ⟨σ, b, ?_, hb, hJ, hM, FrM.rf σ⟩
    rw [q116_28, show wr (((0 : Nat) : Int) - 1) = -1 by decide, if_pos (by decide), wr_in hx]
    by_cases c0 : x = 0
    · rw [if_pos c0, if_pos c0]
    · rw [if_neg c0, if_neg c0, m_cost hn hM.1.1 (fun i hi => (hM.2.1 i hi).2) (by omega), kcI_s]
      rfl
  | k + 1, b, bb0, σ, hk, hb, hJ, hM, hG => by
    have hn := hO.1.2.1
    have hp7 := p2_7 hn
    have hB8 := hO.1.2.2.1
    have e0 := q116_28 x (b : Int) (((k + 1 : Nat) : Int) - 1) σ
    rw [show (((k + 1 : Nat) : Int) - 1) = (k : Int) by omega] at e0 ⊢
    obtain ⟨X, hX⟩ : ∃ X, X = up σ 40 16 (k : Int) := ⟨_, rfl⟩
    have hM1 : InvM X d := by rw [hX]; exact hM.u40 (by decide)
    have hG1 : GoIn X (dn d) (d 1) (d 5) (dg d) k 0 := by
      obtain ⟨g1, g2, g3, g4, g5, g6, g7, g8⟩ := hG
      rw [hX]
      exact ⟨fun i hi => by rw [up_ne (by decide)]; exact g1 i hi, fun i hi => by rw [up_ne (by decide)]; exact g2 i hi, up_e _ _ _ _, by omega, by rw [up_j, if_neg (by decide)]; exact g5, g6, by rw [up_j, if_neg (by decide)]; exact g7, g8⟩
    have fX : FrM σ X := fun q hq => by rw [hX, up_ne (by omega)]
    have p1 := pB_le hO k
    have p2 := pB_le hO b
    have c1 := m_cost (d := d) (σ := X) (s := k) hn hM1.1.1 (fun i hi => (hM1.2.1 i hi).2) (by omega)
    have c2 := m_cost (d := d) (σ := X) (s := b) hn hM1.1.1 (fun i hi => (hM1.2.1 i hi).2) (by omega)
    change _ = some (vI ((pB d k : Nat) : Int), X) at c1
    change _ = some (vI ((pB d b : Nat) : Int), X) at c2
    rw [wr_id (x := (k : Int)) (by omega) (by omega), if_neg (show ¬ (k : Int) < 0 by omega), ← hX, c1, kcI_s, c2, kcI_s, wr_id (x := ((pB d k : Nat) : Int)) (by omega) (by omega), wr_id (x := ((pB d b : Nat) : Int)) (by omega) (by omega), show ((k : Int) + -1) = (k : Int) - 1 by omega] at e0
    have keep : (pB d b < pB d k ∨ wB d k = false) → Bst d k (2 ^ dn d) b := fun hc => ⟨hJ.1, fun s h1 h2 hw => by
      by_cases e : s = k
      · subst e
        rcases hc with q | q
        · exact ⟨by omega, fun _ => q⟩
        · rw [q] at hw; cases hw
      · exact hJ.2 s (by omega) h2 hw⟩
    by_cases cp : pB d b < pB d k
    · obtain ⟨σ', b', t1, t2, t3, t4, t5⟩ := m_bribes_loop hO hx k b k X (by omega) hb (keep (Or.inl cp)) hM1 hG1
      rw [if_pos (by omega)] at e0
      exact ⟨σ', b', e0.trans t1, t2, t3, t4, fX.tr t5⟩
    · obtain ⟨s2, u1, u2, u3, u4, u5, u6⟩ := m_even hO hM1 hG1 hO.2.2.2.1
      have lw := whX_le d (d 5) (dg d) k 0
      have f2 : FrM σ s2 := fX.tr (fun q hq => u5 q (by omega) (by omega) (by omega))
      rw [if_neg (by omega), u1, kcI_s, wr_1, if_pos (by decide), show (1 : Int).toNat = 1 from rfl, u4.1.2.2.1, wr_id (x := ((whX d (d 5) (dg d) k 0 : Nat) : Int)) (by omega) (by omega), wr_id (x := (dB d : Int)) (by omega) (by omega)] at e0
      by_cases cw : whX d (d 5) (dg d) k 0 = dB d
      · have w1 : wB d k = true := by unfold wB; rw [cw, beq_self_eq_true]
        obtain ⟨σ', b', t1, t2, t3, t4, t5⟩ := m_bribes_loop hO hx k k k s2 (by omega) (by omega) ⟨w1, fun s h1 h2 hw => by
          by_cases e : s = k
          · subst e; exact ⟨Nat.le_refl _, fun z => by omega⟩
          · have := (hJ.2 s (by omega) h2 hw).1
            exact ⟨by omega, fun z => by omega⟩⟩ u4 u3
        rw [if_pos (by omega)] at e0
        exact ⟨σ', b', e0.trans t1, t2, t3, t4, f2.tr t5⟩
      · have w1 : wB d k = false := by unfold wB; simpa using cw
        obtain ⟨σ', b', t1, t2, t3, t4, t5⟩ := m_bribes_loop hO hx k b k s2 (by omega) hb (keep (Or.inr w1)) u4 u3
        rw [if_neg (by omega)] at e0
        exact ⟨σ', b', e0.trans t1, t2, t3, t4, f2.tr t5⟩
theorem m_bribes {d : Dt} {σ : Sg} {x : Int} (hO : OkD d) (hM : InvM σ d) (hx : InR x) : ∃ σ', Cal 116 [vR 40, vI x] σ = some (vI (r_bribes d x), σ') ∧ InvM σ' d ∧ FrM σ σ' := by
  have hn := hO.1.2.1
  have hp7 := p2_7 hn
  have h2p := Nat.two_pow_pos (dn d)
  have e0 : Cal 116 [vR 40, vI x] σ = _ := q116_0 x σ
  have e1 : Cal 79 [vI x, vI 0, vI 1] σ = some (vI (if 0 ≤ x ∧ x ≤ 1 then 1 else 0), σ) := in_m hx ⟨by omega, by omega⟩ ⟨by omega, by omega⟩
  rw [e1, kcI_s] at e0
  unfold r_bribes
  by_cases c : 0 ≤ x ∧ x ≤ 1
  · obtain ⟨σ1, a1, a2, a3, a4⟩ := asit hO hM
    rw [if_pos c, wr_1, if_neg (by decide), a1, kcV_s, wr_0, if_pos (by decide), Int.toNat_zero, a4.1.1, bsl1_n _ (by omega)] at e0
    rw [if_pos c]
    obtain ⟨σ', b', t1, t2, t3, t4, t5⟩ := m_bribes_loop hO hx (2 ^ dn d) (2 ^ dn d - 1) (db d) σ1 (Nat.le_refl _) (by omega) ⟨wB_all hO, fun s h1 h2 _ => by omega⟩ a4 a3
    have eb : bbest d (2 ^ dn d) = ((b' : Nat) : Int) := by
      rcases bbest_bst (d := d) (2 ^ dn d) with ⟨_, h2⟩ | ⟨b, h1, h2, h3⟩
      · have h3 := h2 (2 ^ dn d - 1) (by omega)
        rw [wB_all hO] at h3
        cases h3
      · rw [h1, bst_one h3 t3 h2 t2]
    rw [show (((2 ^ dn d - 1 : Nat)) : Int) = ((2 ^ dn d : Nat) : Int) - 1 by omega] at t1
    rw [eb, if_neg (by omega), Int.toNat_natCast]
    exact ⟨σ', e0.trans t1, t4, fun q hq => by rw [t5 q hq, a2 q (by omega) (by omega) (by omega)]⟩
  · rw [if_neg c, wr_0, if_pos rfl] at e0
    rw [if_neg c]
    exact ⟨σ, e0, hM, FrM.rf σ⟩
