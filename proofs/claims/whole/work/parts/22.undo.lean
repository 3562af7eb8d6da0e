/-! undo, keep, back, in the class -/
def d_undo1 (d : Dt) : Dt := uq (setS d (d (20 + (du d - 1))) (d (20 + (du d - 1)) 7)) 0 6 (du d - 1)
theorem und_row {d : Dt} {q : Nat} (h0 : q ≠ 0) (h5 : q ≠ 5) : d_undo1 d q = d q := (uq_row h0).trans (setS_row h0 h5)
theorem und_0 {d : Dt} {j : Nat} (h : j ≠ 6) (h3 : j ≠ 3) : d_undo1 d 0 j = d 0 j := (uq_0 h).trans (setS_0 h3)
theorem und_5 {d : Dt} : d_undo1 d 5 = d (20 + (du d - 1)) := (uq_row (by decide)).trans setS_5
theorem und_b {d : Dt} : db (d_undo1 d) = d (20 + (du d - 1)) 7 := by
  unfold db d_undo1
  rw [uq_0 (by decide)]
  exact setS_b
theorem und_u {d : Dt} : du (d_undo1 d) = du d - 1 := by
  show (if (0 : Nat) = 0 ∧ (6 : Nat) = 6 then du d - 1 else _) = _
  exact if_pos ⟨rfl, rfl⟩
theorem stp_undo (d : Dt) : Stp2 d (d_undo1 d) := ⟨und_0 (by decide) (by decide), und_0 (by decide) (by decide), und_0 (by decide) (by decide), und_0 (by decide) (by decide), und_0 (by decide) (by decide), fun q h0 h5 _ => und_row h0 h5⟩
theorem ok_undo {d : Dt} (hO : OkD d) (hu : 0 < du d) : OkD (d_undo1 d) := by
  obtain ⟨⟨a1, a2, a3, a4, a5, a6, a7, a8, a9⟩, o2, o3, o4, o5, o6, o7, o8⟩ := hO
  obtain ⟨en, eB, eg, eL, eh, er⟩ := stp_undo d
  have ek : dk (d_undo1 d) = dk d := und_0 (by decide) (by decide)
  unfold OkD
  rw [en, eB, eg, eL, eh, ek, und_u, und_b, und_5, er 1 (by decide) (by decide) (by decide), er 2 (by decide) (by decide) (by decide), er 3 (by decide) (by decide) (by decide), er 4 (by decide) (by decide) (by decide), er 6 (by decide) (by decide) (by decide), er 7 (by decide) (by decide) (by decide), er 8 (by decide) (by decide) (by decide), er 9 (by decide) (by decide) (by decide)]
  refine ⟨⟨a1, a2, a3, a4, (o7 _ (by omega)).2, a6, a7, by omega, a9⟩, o2, o3, (o7 _ (by omega)).1, o5, o6, fun j hj => ?_, fun j hj => ?_⟩
  · rw [und_row (by omega) (by omega)]; exact o7 j (by omega)
  · rw [und_row (by omega) (by omega)]; exact o8 j hj
theorem c_undo {d : Dt} {σ : Sg} (hO : OkD d) (hI : InvC σ d) (hu : 0 < du d) : ∃ σ', Cal 52 [vR 0] σ = some (vI ((du d - 1 : Nat) : Int), σ') ∧ InvC σ' (d_undo1 d) ∧ FrC σ σ' := by
  have hn := hO.1.2.1
  have hp7 := p2_7 hn
  have hu8 := hO.1.2.2.2.2.2.2.2.1
  have hb := hO.1.2.2.2.2.1
  have e0 : Cal 52 [vR 0] σ = _ := q52_0 σ
  obtain ⟨c, hc, k2, k3, k4⟩ := hI.2.2.2.2.2.2.1.2 (du d - 1) (by omega)
  have hU9 := hI.2.2.2.2.2.2.1.1
  have w64 : wr 64 = 64 := by decide
  have hc128 : c < 128 := by
    rcases hc with q | ⟨_, _, _, q⟩
    · omega
    · exact q
  have ns : nxS d (du d - 1) = d 5 := by unfold nxS; rw [if_neg (by omega)]
  have nb : nxB d (du d - 1) = db d := by unfold nxB; rw [if_neg (by omega)]
  rw [ns] at k3
  rw [nb] at k4
  have U3 : up σ 0 9 (((du d : Nat) : Int) - 1) 3 (du d - 1) = (c : Int) := (up_p _ _ _ (by decide)).trans k2
  rw [hU9, wr_id (x := (du d : Int)) (by omega) (by omega), wr_1, if_neg (by omega), up_e, show (((du d : Nat) : Int) - 1) = ((du d - 1 : Nat) : Int) by omega, wr_id (x := ((du d - 1 : Nat) : Int)) (by omega) (by omega), if_pos (by omega), toN, up_p (q := 3) _ _ _ (by decide), k2, w64, wr_id (x := (c : Int)) (by omega) (by omega)] at e0
  -- the seats and bribes that are put back, in tau
  have main : ∃ τ, Cal 52 [vR 0] σ = Run 52 69 [vR 0, vI c] [] τ ∧ (∀ q, q ≠ 0 → q ≠ 1 → τ q = σ q) ∧ (∀ j, j ≠ 3 → j ≠ 9 → τ 0 j = σ 0 j) ∧ τ 0 9 = ((du d - 1 : Nat) : Int) ∧ SeatI τ (d_undo1 d) := by
    have en : dn (d_undo1 d) = dn d := (stp_undo d).1
    by_cases h64 : c < 64
    · have hcn : c < dn d := by
        rcases hc with q | ⟨q, _⟩
        · exact q
        · omega
      have l2 := p2_lt hcn
      rw [if_pos (by omega), up_j, if_neg (by decide), hI.2.1.2, bsl1_n c (by omega), bxo_n _ _ (by omega) (by omega)] at e0
      refine ⟨_, e0, fun q q0 q1 => by rw [up_ne q0, up_ne q0], fun j j3 j9 => by rw [up_j, if_neg j3, up_j, if_neg j9], by simp [up_at], ?_, ?_⟩
      · rw [en, und_5]
        have hR : Rep σ 1 (dn d) (d 5) := hI.2.1.1
        refine (hR.kept (σ' := up (up σ 0 9 ((du d - 1 : Nat) : Int)) 0 3 ((db d ^^^ 2 ^ c : Nat) : Int)) (by rw [up_ne (by decide), up_ne (by decide)])).to (fun i hi => ?_)
        rw [k3 i hi]
        unfold baS
        rw [if_neg (by omega)]
      · rw [und_b, k4, up_e]
        unfold baB
        rw [if_neg (by omega)]
    · have hcab : c / 8 % 8 < dn d ∧ c % 8 < dn d := by
        rcases hc with q | ⟨_, q2, q3, _⟩
        · omega
        · exact ⟨q2, q3⟩
      have w3 : ban (bsr (c : Int) 3) 7 = ((c / 8 % 8 : Nat) : Int) := by
        have e1 : bsr (c : Int) 3 = ((c / 8 : Nat) : Int) := bsr_n c 3 (by omega) (by decide)
        rw [e1]
        have e2 : ban ((c / 8 : Nat) : Int) 7 = ((c / 8 &&& 7 : Nat) : Int) := ban_n _ 7 (by omega)
        rw [e2, show (7 : Nat) = 2 ^ 3 - 1 from rfl, Nat.and_two_pow_sub_one_eq_mod]
      have w7 : ban (c : Int) 7 = ((c % 8 : Nat) : Int) := by
        have e2 : ban (c : Int) 7 = ((c &&& 7 : Nat) : Int) := ban_n _ 7 (by omega)
        rw [e2, show (7 : Nat) = 2 ^ 3 - 1 from rfl, Nat.and_two_pow_sub_one_eq_mod]
      rw [if_neg (by omega), w3, w7, swp_c (Or.inl rfl) (by omega) (by omega), kcV_s] at e0
      have hR : Rep (up σ 0 9 ((du d - 1 : Nat) : Int)) 1 (dn d) (d 5) := hI.2.1.1.kept (up_ne (by decide))
      refine ⟨_, e0, fun q q0 q1 => by rw [up_ne q1, up_ne q1, up_ne q0], fun j j3 j9 => by rw [up_p _ _ _ (by decide), up_p _ _ _ (by decide), up_j, if_neg j9], by simp [up_at], ?_, ?_⟩
      · rw [en, und_5]
        refine (hR.sw hcab.1 hcab.2).to (fun i hi => ?_)
        rw [k3 i hi]
        unfold baS
        rw [if_pos (by omega)]
      · rw [und_b, k4, up_p _ _ _ (by decide), up_p _ _ _ (by decide), up_j, if_neg (by decide), hI.2.1.2]
        unfold baB
        rw [if_pos (by omega)]
  obtain ⟨τ, e1, f1, f2, f3, hS⟩ := main
  have en : dn (d_undo1 d) = dn d := (stp_undo d).1
  have hK : KeptI τ (d_undo1 d) := by
    have z : KeptI τ d := hI.2.2.2.2.2.1.kept (f2 16 (by decide) (by decide)) (f1 8 (by decide) (by decide)) (f1 9 (by decide) (by decide)) (f1 10 (by decide) (by decide))
    exact z.to (und_0 (by decide) (by decide)) en (fun j => und_row (by omega) (by omega))
  have hU : UndoI τ (d_undo1 d) := by
    unfold UndoI
    rw [und_u, en]
    refine ⟨f3, fun j hj => ?_⟩
    obtain ⟨c0, g1, g2, g3, g4⟩ := hI.2.2.2.2.2.2.1.2 j (by omega)
    have hs : nxS (d_undo1 d) j = nxS d j := by
      unfold nxS
      rw [und_u, und_5, if_pos (by omega : j + 1 < du d)]
      by_cases c2 : j + 1 < du d - 1
      · rw [if_pos c2, und_row (by omega) (by omega)]
      · rw [if_neg c2, show du d - 1 = j + 1 by omega]
    have hbx : nxB (d_undo1 d) j = nxB d j := by
      unfold nxB
      rw [und_u, und_b, if_pos (by omega : j + 1 < du d)]
      by_cases c2 : j + 1 < du d - 1
      · rw [if_pos c2, und_row (by omega) (by omega)]
      · rw [if_neg c2, show du d - 1 = j + 1 by omega]
    rw [hs, hbx, und_row (by omega) (by omega), f1 3 (by decide) (by decide)]
    exact ⟨c0, g1, g2, g3, g4⟩
  obtain ⟨σ', t1, t2, t3⟩ := inv_settle (ok_undo hO hu) hI (stp_undo d) hS (fun q h0 h1 _ _ _ _ => f1 q h0 h1) (f2 13 (by decide) (by decide)) hK hU
  have e2 := q52_69 (c : Int) τ
  rw [t1, kcV_s, t2.2.2.2.2.2.2.1.1, und_u] at e2
  exact ⟨σ', e1.trans e2, t2, fun q hq => by rw [t3 q (by omega) (by omega) (by omega) (by omega), f1 q (by omega) (by omega)]⟩
theorem c_undo0 {d : Dt} {σ : Sg} (hI : InvC σ d) (hu : du d = 0) : Cal 52 [vR 0] σ = some (vI (-2), σ) := by
  have e0 : Cal 52 [vR 0] σ = _ := q52_0 σ
  rw [hI.2.2.2.2.2.2.1.1, hu, wr_1, if_pos (by decide)] at e0
  exact e0
