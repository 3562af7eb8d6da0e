/-! undo, keep, back, in the class -/
theorem uq_e {d : Dt} {p i x : Nat} : uq d p i x p i = x := if_pos ⟨rfl, rfl⟩
def d_undo1 (d : Dt) : Dt := uq (setS d (d (20 + (du d - 1))) (d (20 + (du d - 1)) 7)) 0 6 (du d - 1)
theorem und_row {d : Dt} {q : Nat} (h0 : q ≠ 0) (h5 : q ≠ 5) : d_undo1 d q = d q := (uq_row h0).trans (setS_row h0 h5)
theorem und_0 {d : Dt} {j : Nat} (h : j ≠ 6) (h3 : j ≠ 3) : d_undo1 d 0 j = d 0 j := (uq_0 h).trans (setS_0 h3)
theorem und_5 {d : Dt} : d_undo1 d 5 = d (20 + (du d - 1)) := (uq_row (by decide)).trans setS_5
theorem und_b {d : Dt} : db (d_undo1 d) = d (20 + (du d - 1)) 7 := by
  unfold db d_undo1
  rw [uq_0 (by decide)]
  exact setS_b
theorem und_u {d : Dt} : du (d_undo1 d) = du d - 1 := by
  unfold du d_undo1
  exact uq_e
theorem stp_undo (d : Dt) : Stp2 d (d_undo1 d) := ⟨und_0 (by decide) (by decide), und_0 (by decide) (by decide), und_0 (by decide) (by decide), und_0 (by decide) (by decide), und_0 (by decide) (by decide), fun q h0 h5 _ => und_row h0 h5⟩
theorem ok_undo {d : Dt} (hO : OkD d) (hu : 0 < du d) : OkD (d_undo1 d) := by
  obtain ⟨⟨a1, a2, a3, a4, a5, a6, a7, a8, a9⟩, o2, o3, o4, o5, o6, o7, o8⟩ := hO
  obtain ⟨en, eB, eg, eL, eh, er⟩ := stp_undo d
  have ek : dk (d_undo1 d) = dk d := und_0 (by decide) (by decide)
  unfold OkD
  rw [en, eB, eg, eL, eh, ek, und_u, und_b, und_5, er 1 (by decide) (by decide) (by decide), er 2 (by decide) (by decide) (by decide), er 3 (by decide) (by decide) (by decide), er 4 (by decide) (by decide) (by decide), er 6 (by decide) (by decide) (by decide), er 7 (by decide) (by decide) (by decide), er 8 (by decide) (by decide) (by decide), er 9 (by decide) (by decide) (by decide)]
  refine ⟨⟨a1, a2, a3, a4, (o7 _ (by omega)).2, a6, a7, by omega, a9⟩, o2, o3, (o7 _ (by omega)).1, o5, o6, fun j hj => ?_, fun j hj => ?_⟩
  · rw [und_row (by omega) (by omega)]; exact o7 j (by omega)
  · rw [und_row (by omega) (by omega)]; exact o8 j hj
theorem c_undo {d : Dt} {σ : Sg} (hO : OkD d) (hI : InvC σ d) (hu : 0 < du d) : ∃ σ', Cal 52 [vR 0] σ = some (vI ((du d - 1 : Nat) : Int), σ') ∧ InvC σ' (d_undo1 d) ∧ FrC σ σ' := by
  have hn := hO.1.2.1
  have hp7 := p2_7 hn
  have hu8 := hO.1.2.2.2.2.2.2.2.1
  have hb := hO.1.2.2.2.2.1
  have e0 : Cal 52 [vR 0] σ = _ := q52_0 σ
  obtain ⟨c, hc, k2, k3, k4⟩ := hI.2.2.2.2.2.2.1.2 (du d - 1) (by omega)
  have hU9 := hI.2.2.2.2.2.2.1.1
  have w64 : wr 64 = 64 := by decide
  have hc128 : c < 128 := by
    rcases hc with q | ⟨_, _, _, q⟩
    · omega
    · exact q
  have ns : nxS d (du d - 1) = d 5 := by unfold nxS; rw [if_neg (by omega)]
  have nb : nxB d (du d - 1) = db d := by unfold nxB; rw [if_neg (by omega)]
  rw [ns] at k3
  rw [nb] at k4
  have U3 : up σ 0 9 (((du d : Nat) : Int) - 1) 3 (du d - 1) = (c : Int) := (up_p _ _ _ (by decide)).trans k2
  rw [hU9, wr_id (x := (du d : Int)) (by omega) (by omega), wr_1, if_neg (by omega), up_e, show (((du d : Nat) : Int) - 1) = ((du d - 1 : Nat) : Int) by omega, wr_id (x := ((du d - 1 : Nat) : Int)) (by omega) (by omega), if_pos (by omega), toN, up_p (q := 3) _ _ _ (by decide), k2, w64, wr_id (x := (c : Int)) (by omega) (by omega)] at e0
  -- the seats and bribes that are put back, in tau
  have main : ∃ τ, Cal 52 [vR 0] σ = Run 52 69 [vR 0, vI c] [] τ ∧ (∀ q, q ≠ 0 → q ≠ 1 → τ q = σ q) ∧ (∀ j, j ≠ 3 → j ≠ 9 → τ 0 j = σ 0 j) ∧ τ 0 9 = ((du d - 1 : Nat) : Int) ∧ SeatI τ (d_undo1 d) := by
    have en : dn (d_undo1 d) = dn d := (stp_undo d).1
    by_cases h64 : c < 64
    · have hcn : c < dn d := by
        rcases hc with q | ⟨q, _⟩
        · exact q
        · omega
      have l2 := p2_lt hcn
      rw [if_pos (by omega), up_j, if_neg (by decide), hI.2.1.2, bsl1_n c (by omega), bxo_n _ _ (by omega) (by omega)] at e0
      refine ⟨_, e0, fun q q0 q1 => by rw [up_ne q0, up_ne q0], fun j j3 j9 => by rw [up_j, if_neg j3, up_j, if_neg j9], by simp [up_at], ?_, ?_⟩
      · rw [en, und_5]
        have hR : Rep σ 1 (dn d) (d 5) := hI.2.1.1
        refine (hR.kept (σ' := up (up σ 0 9 ((du d - 1 : Nat) : Int)) 0 3 ((db d ^^^ 2 ^ c : Nat) : Int)) (by rw [up_ne (by decide), up_ne (by decide)])).to (fun i hi => ?_)
        rw [k3 i hi]
        unfold baS
        rw [if_neg (by omega)]
      · rw [und_b, k4, up_e]
        unfold baB
        rw [if_neg (by omega)]
    · have hcab : c / 8 % 8 < dn d ∧ c % 8 < dn d := by
        rcases hc with q | ⟨_, q2, q3, _⟩
        · omega
        · exact ⟨q2, q3⟩
      have w3 : ban (bsr (c : Int) 3) 7 = ((c / 8 % 8 : Nat) : Int) := by
        have e1 : bsr (c : Int) 3 = ((c / 8 : Nat) : Int) := bsr_n c 3 (by omega) (by decide)
        rw [e1]
        have e2 : ban ((c / 8 : Nat) : Int) 7 = ((c / 8 &&& 7 : Nat) : Int) := ban_n _ 7 (by omega)
        rw [e2, show (7 : Nat) = 2 ^ 3 - 1 from rfl, Nat.and_two_pow_sub_one_eq_mod]
      have w7 : ban (c : Int) 7 = ((c % 8 : Nat) : Int) := by
        have e2 : ban (c : Int) 7 = ((c &&& 7 : Nat) : Int) := ban_n _ 7 (by omega)
        rw [e2, show (7 : Nat) = 2 ^ 3 - 1 from rfl, Nat.and_two_pow_sub_one_eq_mod]
      rw [if_neg (by omega), w3, w7, swp_c (Or.inl rfl) (by omega) (by omega), kcV_s] at e0
      have hR : Rep (up σ 0 9 ((du d - 1 : Nat) : Int)) 1 (dn d) (d 5) := hI.2.1.1.kept (up_ne (by decide))
      refine ⟨_, e0, fun q q0 q1 => by rw [up_ne q1, up_ne q1, up_ne q0], fun j j3 j9 => by rw [up_p _ _ _ (by decide), up_p _ _ _ (by decide), up_j, if_neg j9], by simp [up_at], ?_, ?_⟩
      · rw [en, und_5]
        refine (hR.sw hcab.1 hcab.2).to (fun i hi => ?_)
        rw [k3 i hi]
        unfold baS
        rw [if_pos (by omega)]
      · rw [und_b, k4, up_p _ _ _ (by decide), up_p _ _ _ (by decide), up_j, if_neg (by decide), hI.2.1.2]
        unfold baB
        rw [if_pos (by omega)]
  obtain ⟨τ, e1, f1, f2, f3, hS⟩ := main
  have en : dn (d_undo1 d) = dn d := (stp_undo d).1
  have hK : KeptI τ (d_undo1 d) := by
    have z : KeptI τ d := hI.2.2.2.2.2.1.kept (f2 16 (by decide) (by decide)) (f1 8 (by decide) (by decide)) (f1 9 (by decide) (by decide)) (f1 10 (by decide) (by decide))
    exact z.to (und_0 (by decide) (by decide)) en (fun j => und_row (by omega) (by omega))
  have hU : UndoI τ (d_undo1 d) := by
    unfold UndoI
    rw [und_u, en]
    refine ⟨f3, fun j hj => ?_⟩
    obtain ⟨c0, g1, g2, g3, g4⟩ := hI.2.2.2.2.2.2.1.2 j (by omega)
    have hs : nxS (d_undo1 d) j = nxS d j := by
      unfold nxS
      rw [und_u, und_5, if_pos (by omega : j + 1 < du d)]
      by_cases c2 : j + 1 < du d - 1
      · rw [if_pos c2, und_row (by omega) (by omega)]
      · rw [if_neg c2, show du d - 1 = j + 1 by omega]
    have hbx : nxB (d_undo1 d) j = nxB d j := by
      unfold nxB
      rw [und_u, und_b, if_pos (by omega : j + 1 < du d)]
      by_cases c2 : j + 1 < du d - 1
      · rw [if_pos c2, und_row (by omega) (by omega)]
      · rw [if_neg c2, show du d - 1 = j + 1 by omega]
    rw [hs, hbx, und_row (by omega) (by omega), f1 3 (by decide) (by decide)]
    exact ⟨c0, g1, g2, g3, g4⟩
  obtain ⟨σ', t1, t2, t3⟩ := inv_settle (ok_undo hO hu) hI (stp_undo d) hS (fun q h0 h1 _ _ _ _ => f1 q h0 h1) (f2 13 (by decide) (by decide)) hK hU
  have e2 := q52_69 (c : Int) τ
  rw [t1, kcV_s, t2.2.2.2.2.2.2.1.1, und_u] at e2
  exact ⟨σ', e1.trans e2, t2, fun q hq => by rw [t3 q (by omega) (by omega) (by omega) (by omega), f1 q (by omega) (by omega)]⟩
theorem c_undo0 {d : Dt} {σ : Sg} (hI : InvC σ d) (hu : du d = 0) : Cal 52 [vR 0] σ = some (vI (-2), σ) := by
  have e0 : Cal 52 [vR 0] σ = _ := q52_0 σ
  rw [hI.2.2.2.2.2.2.1.1, hu, wr_1, if_pos (by decide)] at e0
  exact e0
-- keep
theorem UndoI.to2 {σ : Sg} {d d' : Dt} (h : UndoI σ d) (e0 : du d' = du d) (en : dn d' = dn d) (eb : db d' = db d) (e5 : d' 5 = d 5) (e : ∀ j, j < du d → d' (20 + j) = d (20 + j)) : UndoI σ d' := by
  have hs : ∀ j, nxS d' j = nxS d j := fun j => by
    unfold nxS
    rw [e0, e5]
    by_cases c : j + 1 < du d
    · rw [if_pos c, if_pos c, e (j + 1) c]
    · rw [if_neg c, if_neg c]
  have hb : ∀ j, nxB d' j = nxB d j := fun j => by
    unfold nxB
    rw [e0, eb]
    by_cases c : j + 1 < du d
    · rw [if_pos c, if_pos c, e (j + 1) c]
    · rw [if_neg c, if_neg c]
  unfold UndoI
  rw [e0, en]
  refine ⟨h.1, fun j hj => ?_⟩
  rw [e j hj, hs j, hb j]
  exact h.2 j hj
def d_keep1 (d : Dt) : Dt := uq (rw1 d (30 + dk d) (curR d)) 0 7 (dk d + 1)
theorem rw1_row {d : Dt} {p q : Nat} {f : Nat → Nat} (h : q ≠ p) : rw1 d p f q = d q := funext fun j => if_neg h
theorem rw1_e {d : Dt} {p : Nat} {f : Nat → Nat} : rw1 d p f p = f := funext fun j => if_pos rfl
theorem kp_row {d : Dt} {q : Nat} (h0 : q ≠ 0) (h : q ≠ 30 + dk d) : d_keep1 d q = d q := (uq_row h0).trans (rw1_row h)
theorem kp_0 {d : Dt} {j : Nat} (h : j ≠ 7) : d_keep1 d 0 j = d 0 j := (uq_0 h).trans (congrFun (rw1_row (by omega)) _)
theorem kp_k {d : Dt} : dk (d_keep1 d) = dk d + 1 := by
  unfold dk d_keep1
  exact uq_e
theorem kp_p {d : Dt} : d_keep1 d (30 + dk d) = curR d := (uq_row (by omega)).trans rw1_e
theorem ok_keep {d : Dt} (hO : OkD d) (hk : dk d < 2) : OkD (d_keep1 d) := by
  obtain ⟨⟨a1, a2, a3, a4, a5, a6, a7, a8, a9⟩, o2, o3, o4, o5, o6, o7, o8⟩ := hO
  have en : dn (d_keep1 d) = dn d := kp_0 (by decide)
  have eB : dB (d_keep1 d) = dB d := kp_0 (by decide)
  have eg : dg (d_keep1 d) = dg d := kp_0 (by decide)
  have eb : db (d_keep1 d) = db d := kp_0 (by decide)
  have eL : dL (d_keep1 d) = dL d := kp_0 (by decide)
  have eh : dh (d_keep1 d) = dh d := kp_0 (by decide)
  have eu : du (d_keep1 d) = du d := kp_0 (by decide)
  have er : ∀ q, q ≠ 0 → q < 30 → d_keep1 d q = d q := fun q h0 h => kp_row h0 (by omega)
  unfold OkD
  rw [en, eB, eg, eb, eL, eh, eu, kp_k, er 1 (by decide) (by decide), er 2 (by decide) (by decide), er 3 (by decide) (by decide), er 4 (by decide) (by decide), er 5 (by decide) (by decide), er 6 (by decide) (by decide), er 7 (by decide) (by decide), er 8 (by decide) (by decide), er 9 (by decide) (by decide)]
  refine ⟨⟨a1, a2, a3, a4, a5, a6, a7, a8, by omega⟩, o2, o3, o4, o5, o6, fun j hj => ?_, fun j hj => ?_⟩
  · rw [er (20 + j) (by omega) (by omega)]; exact o7 j hj
  · by_cases c : j = dk d
    · rw [c, kp_p]
      exact ⟨curR_perm a2 o4, by unfold curR; rw [if_pos rfl]; exact a5⟩
    · rw [kp_row (by omega) (by omega)]; exact o8 j (by omega)
theorem c_keep {d : Dt} {σ : Sg} (hO : OkD d) (hI : InvC σ d) (hk : dk d < 2) : ∃ σ', Cal 71 [vR 0] σ = some (vI ((dk d + 1 : Nat) : Int), σ') ∧ InvC σ' (d_keep1 d) ∧ FrC σ σ' := by
  have hn := hO.1.2.1
  have e0 : Cal 71 [vR 0] σ = _ := q71_0 σ
  have w2 : wr 2 = 2 := by decide
  have w7 : wr 7 = 7 := by decide
  have hlk : ∀ k : Nat, k < 2 → lk 7 k = 8 + k ∧ kd (8 + k) = 10 ∧ ln (8 + k) = 7 := by decide
  obtain ⟨l1, l2, l3⟩ := hlk (dk d) hk
  have k1 : kd 1 = 10 := by decide
  have C0 : ∀ j, cpy σ 1 0 (8 + dk d) 0 7 0 j = σ 0 j := fun j => congrFun (cpy_ne (by omega)) j
  rw [hI.2.2.2.2.2.1.1, w2, wr_id (x := ((dk d : Nat) : Int)) (by omega) (by omega), if_pos (by omega), if_pos (by omega), toN, l1, l2, l3, k1, wr_0, w7, if_pos (by decide), if_pos (by decide), show (7 : Int).toNat = 7 from rfl, Int.toNat_zero, C0, hI.2.2.2.2.2.1.1, wr_id (x := ((dk d : Nat) : Int)) (by omega) (by omega), if_pos (by omega), toN, up_e, up_p (q := 0) _ _ _ (by decide), C0, C0, hI.2.2.2.2.2.1.1, hI.2.1.2] at e0
  obtain ⟨X, hX⟩ : ∃ X, X = up (up (cpy σ 1 0 (8 + dk d) 0 7) 10 (dk d) ((db d : Nat) : Int)) 0 16 (((dk d : Nat) : Int) + 1) := ⟨_, rfl⟩
  rw [← hX] at e0
  have kX : ∀ q, q ≠ 0 → q ≠ 10 → q ≠ 8 + dk d → X q = σ q := fun q h0 h1 h2 => by rw [hX, up_ne h0, up_ne h1, cpy_ne h2]
  have kX0 : ∀ j, j ≠ 16 → X 0 j = σ 0 j := fun j hj => by rw [hX, up_j, if_neg hj, up_p _ _ _ (by decide), C0]
  obtain ⟨b1, b2, b3, b4, b5, b6, b7, b8⟩ := hI
  have g : ∀ q, q ≠ 0 → q ≠ 10 → q ≠ 8 → q ≠ 9 → X q = σ q := fun q h0 h1 h2 h3 => kX q h0 h1 (by omega)
  have z1 : BandI X d := b1.kept (g _ (by decide) (by decide) (by decide) (by decide)) (g _ (by decide) (by decide) (by decide) (by decide)) (g _ (by decide) (by decide) (by decide) (by decide)) (g _ (by decide) (by decide) (by decide) (by decide)) (g _ (by decide) (by decide) (by decide) (by decide))
  have z2 : SeatI X d := b2.kept (g _ (by decide) (by decide) (by decide) (by decide)) (kX0 _ (by decide))
  have z3 : NowI X d := b3.kept (g _ (by decide) (by decide) (by decide) (by decide)) (g _ (by decide) (by decide) (by decide) (by decide)) (g _ (by decide) (by decide) (by decide) (by decide))
  have z4 : TextI X d := b4.kept (congrFun (g 11 (by decide) (by decide) (by decide) (by decide)) _) (g _ (by decide) (by decide) (by decide) (by decide))
  have z5 : HeardI X d := b5.kept (kX0 _ (by decide)) (g _ (by decide) (by decide) (by decide) (by decide)) (g _ (by decide) (by decide) (by decide) (by decide)) (g _ (by decide) (by decide) (by decide) (by decide))
  have z7 : UndoI X d := b7.kept (kX0 _ (by decide)) (g _ (by decide) (by decide) (by decide) (by decide))
  have z8 : SurvI X d := b8.kept (g _ (by decide) (by decide) (by decide) (by decide)) (g _ (by decide) (by decide) (by decide) (by decide)) (g _ (by decide) (by decide) (by decide) (by decide))
  have en : dn (d_keep1 d) = dn d := kp_0 (by decide)
  have er : ∀ q, q ≠ 0 → q < 30 → d_keep1 d q = d q := fun q h0 h => kp_row h0 (by omega)
  have y8 : SurvI X (d_keep1 d) := by
    have e1 := er 1 (by decide) (by decide)
    have e2 := er 2 (by decide) (by decide)
    have e4 := er 4 (by decide) (by decide)
    have e5 := er 5 (by decide) (by decide)
    have eB : dB (d_keep1 d) = dB d := kp_0 (by decide)
    have eg : dg (d_keep1 d) = dg d := kp_0 (by decide)
    have eb : db (d_keep1 d) = db d := kp_0 (by decide)
    have n1 : ntK (d_keep1 d) = ntK d := by unfold ntK; rw [en, eB, eg, eb, e1, e2, e4]
    have n2 : whK (d_keep1 d) = whK d := by unfold whK; rw [en, eB, eg, eb, e1, e2, e4]
    have n3 : plK (d_keep1 d) = plK d := by unfold plK; rw [en, eg, eb, e1, e2, e4]
    have n4 : plD (d_keep1 d) = plD d := by unfold plD; rw [en, eg, eb, e1, e2, e4, e5]
    have n5 : alK (d_keep1 d) = alK d := by unfold alK; rw [n3, n4, eB]
    have n6 : farK (d_keep1 d) = farK d := by unfold farK; rw [en, e5]
    unfold SurvI SurvK
    rw [n1, n2, n5, n6, en, eB]
    exact z8
  refine ⟨X, e0, ⟨z1.to en (kp_0 (by decide)) (kp_0 (by decide)) (er 1 (by decide) (by decide)) (er 2 (by decide) (by decide)) (er 3 (by decide) (by decide)) (er 4 (by decide) (by decide)), ⟨by rw [en, er 5 (by decide) (by decide)]; exact z2.1, by rw [show db (d_keep1 d) = db d from kp_0 (by decide)]; exact z2.2⟩, ?_, z4.to (kp_0 (by decide)) (er 6 (by decide) (by decide)), z5.to (kp_0 (by decide)) (er 7 (by decide) (by decide)) (er 8 (by decide) (by decide)) (er 9 (by decide) (by decide)), ⟨?_, ?_, fun j hj => ?_⟩, z7.to2 (kp_0 (by decide)) en (kp_0 (by decide)) (er 5 (by decide) (by decide)) (fun j hj => ?_), y8⟩, fun q hq => kX q (by omega) (by omega) (by omega)⟩
  · have eB : dB (d_keep1 d) = dB d := kp_0 (by decide)
    have eg : dg (d_keep1 d) = dg d := kp_0 (by decide)
    have eb : db (d_keep1 d) = db d := kp_0 (by decide)
    unfold NowI
    rw [en, eB, eg, eb, er 1 (by decide) (by decide), er 2 (by decide) (by decide), er 4 (by decide) (by decide), er 5 (by decide) (by decide)]
    exact z3
  · rw [hX, up_e, kp_k]; omega
  · rw [kp_k]; omega
  · rw [kp_k] at hj
    rw [en]
    by_cases c : j = dk d
    · rw [c, kp_p]
      refine ⟨fun i hi => ?_, ?_⟩
      · rw [hX, up_p _ _ _ (by omega), up_p _ _ _ (by omega)]
        unfold cpy curR
        rw [if_pos (by omega), if_neg (by omega), Nat.zero_add, Nat.sub_zero]
        exact b2.1 i hi
      · rw [hX, up_p _ _ _ (by decide), up_e]
        unfold curR
        rw [if_pos rfl]
    · obtain ⟨p1, p2⟩ := b6.2.2 j (by omega)
      rw [kp_row (by omega) (by omega)]
      refine ⟨p1.kept (kX _ (by omega) (by omega) (by omega)), ?_⟩
      rw [hX, up_p _ _ _ (by decide), up_j, if_neg c, cpy_ne (by omega)]
      exact p2
  · have := hO.1.2.2.2.2.2.2.2.1
    exact kp_row (by omega) (by omega)
theorem c_keep2 {d : Dt} {σ : Sg} (hI : InvC σ d) (hk : dk d = 2) : Cal 71 [vR 0] σ = some (vI (-3), σ) := by
  have e0 : Cal 71 [vR 0] σ = _ := q71_0 σ
  rw [hI.2.2.2.2.2.1.1, hk, if_neg (by decide)] at e0
  exact e0
-- back
def d_back1 (d : Dt) : Dt := uq (uq (setS d (d (30 + (dk d - 1))) (d (30 + (dk d - 1)) 7)) 0 7 (dk d - 1)) 0 6 0
theorem bk_row {d : Dt} {q : Nat} (h0 : q ≠ 0) (h5 : q ≠ 5) : d_back1 d q = d q := (uq_row h0).trans ((uq_row h0).trans (setS_row h0 h5))
theorem bk_0 {d : Dt} {j : Nat} (h : j ≠ 6) (h7 : j ≠ 7) (h3 : j ≠ 3) : d_back1 d 0 j = d 0 j := (uq_0 h).trans ((uq_0 h7).trans (setS_0 h3))
theorem bk_5 {d : Dt} : d_back1 d 5 = d (30 + (dk d - 1)) := (uq_row (by decide)).trans ((uq_row (by decide)).trans setS_5)
theorem bk_b {d : Dt} : db (d_back1 d) = d (30 + (dk d - 1)) 7 := by
  unfold db d_back1
  rw [uq_0 (by decide), uq_0 (by decide)]
  exact setS_b
theorem bk_u {d : Dt} : du (d_back1 d) = 0 := by
  unfold du d_back1
  exact uq_e
theorem bk_k {d : Dt} : dk (d_back1 d) = dk d - 1 := by
  unfold dk d_back1
  rw [uq_0 (by decide)]
  exact uq_e
theorem stp_back (d : Dt) : Stp2 d (d_back1 d) := ⟨bk_0 (by decide) (by decide) (by decide), bk_0 (by decide) (by decide) (by decide), bk_0 (by decide) (by decide) (by decide), bk_0 (by decide) (by decide) (by decide), bk_0 (by decide) (by decide) (by decide), fun q h0 h5 _ => bk_row h0 h5⟩
theorem ok_back {d : Dt} (hO : OkD d) (hk : 0 < dk d) : OkD (d_back1 d) := by
  obtain ⟨⟨a1, a2, a3, a4, a5, a6, a7, a8, a9⟩, o2, o3, o4, o5, o6, o7, o8⟩ := hO
  obtain ⟨en, eB, eg, eL, eh, er⟩ := stp_back d
  unfold OkD
  rw [en, eB, eg, eL, eh, bk_k, bk_u, bk_b, bk_5, er 1 (by decide) (by decide) (by decide), er 2 (by decide) (by decide) (by decide), er 3 (by decide) (by decide) (by decide), er 4 (by decide) (by decide) (by decide), er 6 (by decide) (by decide) (by decide), er 7 (by decide) (by decide) (by decide), er 8 (by decide) (by decide) (by decide), er 9 (by decide) (by decide) (by decide)]
  refine ⟨⟨a1, a2, a3, a4, (o8 _ (by omega)).2, a6, a7, by omega, by omega⟩, o2, o3, (o8 _ (by omega)).1, o5, o6, fun j hj => by omega, fun j hj => ?_⟩
  rw [bk_row (by omega) (by omega)]; exact o8 j (by omega)
theorem c_back {d : Dt} {σ : Sg} (hO : OkD d) (hI : InvC σ d) (hk : 0 < dk d) : ∃ σ', Cal 72 [vR 0] σ = some (vI ((dk d - 1 : Nat) : Int), σ') ∧ InvC σ' (d_back1 d) ∧ FrC σ σ' := by
  have hn := hO.1.2.1
  have hk2 := hO.1.2.2.2.2.2.2.2.2
  have e0 : Cal 72 [vR 0] σ = _ := q72_0 σ
  have w7 : wr 7 = 7 := by decide
  have hlk : ∀ k : Nat, k < 2 → lk 7 k = 8 + k ∧ kd (8 + k) = 10 ∧ ln (8 + k) = 7 := by decide
  obtain ⟨l1, l2, l3⟩ := hlk (dk d - 1) (by omega)
  have k1 : kd 1 = 10 := by decide
  obtain ⟨Y, hY⟩ : ∃ Y, Y = up σ 0 16 ((dk d - 1 : Nat) : Int) := ⟨_, rfl⟩
  have C0 : ∀ j, cpy Y (8 + (dk d - 1)) 0 1 0 7 0 j = Y 0 j := fun j => congrFun (cpy_ne (by decide)) j
  have Y16 : Y 0 16 = ((dk d - 1 : Nat) : Int) := by rw [hY, up_e]
  have yq : ∀ q, q ≠ 0 → Y q = σ q := fun q hq => by rw [hY, up_ne hq]
  have y0 : ∀ j, j ≠ 16 → Y 0 j = σ 0 j := fun j hj => by rw [hY, up_j, if_neg hj]
  obtain ⟨p1, p2⟩ := hI.2.2.2.2.2.1.2.2 (dk d - 1) (by omega)
  have C10 : cpy Y (8 + (dk d - 1)) 0 1 0 7 10 (dk d - 1) = ((d (30 + (dk d - 1)) 7 : Nat) : Int) := by
    rw [cpy_ne (by decide), yq 10 (by decide)]; exact p2
  rw [hI.2.2.2.2.2.1.1, wr_id (x := ((dk d : Nat) : Int)) (by omega) (by omega), wr_1, if_neg (by omega), show (((dk d : Nat) : Int) - 1) = ((dk d - 1 : Nat) : Int) by omega, ← hY, Y16, wr_id (x := ((dk d - 1 : Nat) : Int)) (by omega) (by omega), if_pos (by omega), toN, l1, l2, l3, k1, wr_0, w7, if_pos (by decide), if_pos (by decide), show (7 : Int).toNat = 7 from rfl, Int.toNat_zero, C0, Y16, wr_id (x := ((dk d - 1 : Nat) : Int)) (by omega) (by omega), if_pos (by omega), toN, C10] at e0
  obtain ⟨X, hX⟩ : ∃ X, X = up (up (cpy Y (8 + (dk d - 1)) 0 1 0 7) 0 3 ((d (30 + (dk d - 1)) 7 : Nat) : Int)) 0 9 0 := ⟨_, rfl⟩
  rw [← hX] at e0
  have kX : ∀ q, q ≠ 0 → q ≠ 1 → X q = σ q := fun q h0 h1 => by rw [hX, up_ne h0, up_ne h0, cpy_ne h1, yq q h0]
  have kX0 : ∀ j, j ≠ 3 → j ≠ 9 → X 0 j = Y 0 j := fun j h3 h9 => by rw [hX, up_j, if_neg h9, up_j, if_neg h3, C0]
  have en : dn (d_back1 d) = dn d := (stp_back d).1
  have hS : SeatI X (d_back1 d) := by
    refine ⟨?_, ?_⟩
    · rw [en, bk_5]
      intro i hi
      rw [hX, up_p _ _ _ (by decide), up_p _ _ _ (by decide)]
      unfold cpy
      rw [if_pos (by omega), Nat.zero_add, Nat.sub_zero, yq _ (by omega)]
      exact p1 i hi
    · rw [bk_b, hX, up_j, if_neg (by decide), up_e]
  have hK : KeptI X (d_back1 d) := by
    unfold KeptI
    rw [bk_k, en]
    refine ⟨by rw [kX0 16 (by decide) (by decide), Y16], by omega, fun j hj => ?_⟩
    obtain ⟨g1, g2⟩ := hI.2.2.2.2.2.1.2.2 j (by omega)
    rw [bk_row (by omega) (by omega)]
    exact ⟨g1.kept (kX _ (by omega) (by omega)), by rw [kX 10 (by decide) (by decide)]; exact g2⟩
  have hU : UndoI X (d_back1 d) := by
    unfold UndoI
    rw [bk_u]
    exact ⟨by rw [hX, up_e]; rfl, fun j hj => by omega⟩
  obtain ⟨σ', t1, t2, t3⟩ := inv_settle (ok_back hO hk) hI (stp_back d) hS (fun q h0 h1 _ _ _ _ => kX q h0 h1) (by rw [kX0 13 (by decide) (by decide), y0 13 (by decide)]) hK hU
  rw [t1, kcV_s, t2.2.2.2.2.2.1.1, bk_k] at e0
  exact ⟨σ', e0, t2, fun q hq => by rw [t3 q (by omega) (by omega) (by omega) (by omega), kX q (by omega) (by omega)]⟩
theorem c_back0 {d : Dt} {σ : Sg} (hI : InvC σ d) (hk : dk d = 0) : Cal 72 [vR 0] σ = some (vI (-2), σ) := by
  have e0 : Cal 72 [vR 0] σ = _ := q72_0 σ
  rw [hI.2.2.2.2.2.1.1, hk, wr_1, if_pos (by decide)] at e0
  exact e0
