/-! CALLS THAT CHANGE SOMETHING: wipe, forget, write, heard, keep; bribe, change, undo, back -/
theorem BandI.kept {σ σ' : Sg} {d : Dt} (h : BandI σ d) (h0 : σ' 20 = σ 20) (h1 : σ' 21 = σ 21) (h2 : σ' 22 = σ 22) (h3 : σ' 23 = σ 23) (h4 : σ' 24 = σ 24) : BandI σ' d := ⟨h.1.kept h0 h1 h2 h4, fun i hi => by rw [h3]; exact h.2.1 i hi, by rw [h0]; exact h.2.2⟩
theorem SeatI.kept {σ σ' : Sg} {d : Dt} (h : SeatI σ d) (h1 : σ' 1 = σ 1) (h0 : σ' 0 3 = σ 0 3) : SeatI σ' d := ⟨h.1.kept h1, by rw [h0]; exact h.2⟩
theorem NowI.kept {σ σ' : Sg} {d : Dt} (h : NowI σ d) (h1 : σ' 26 = σ 26) (h2 : σ' 27 = σ 27) (h3 : σ' 28 = σ 28) : NowI σ' d := ⟨by rw [h1]; exact h.1, by rw [h1]; exact h.2.1, fun j hj => by rw [h3]; exact h.2.2.1 j hj, fun i hi => by rw [h2]; exact h.2.2.2 i hi⟩
theorem TextI.kept {σ σ' : Sg} {d : Dt} (h : TextI σ d) (h1 : σ' 11 1 = σ 11 1) (h2 : σ' 12 = σ 12) : TextI σ' d := ⟨by rw [h1]; exact h.1, fun j hj => by rw [h2]; exact h.2 j hj⟩
theorem HeardI.kept {σ σ' : Sg} {d : Dt} (h : HeardI σ d) (h0 : σ' 0 13 = σ 0 13) (h1 : σ' 4 = σ 4) (h2 : σ' 5 = σ 5) (h3 : σ' 6 = σ 6) : HeardI σ' d := ⟨by rw [h0]; exact h.1, fun j hj => by rw [h1, h2, h3]; exact h.2 j hj⟩
theorem KeptI.kept {σ σ' : Sg} {d : Dt} (h : KeptI σ d) (h0 : σ' 0 16 = σ 0 16) (h1 : σ' 8 = σ 8) (h2 : σ' 9 = σ 9) (h3 : σ' 10 = σ 10) : KeptI σ' d := ⟨by rw [h0]; exact h.1, h.2.1, fun j hj => by
  obtain ⟨x, y⟩ := h.2.2 j hj
  refine ⟨x.kept ?_, by rw [h3]; exact y⟩
  have := h.2.1
  rcases (show j = 0 ∨ j = 1 by omega) with rfl | rfl
  · exact h1
  · exact h2⟩
theorem UndoI.kept {σ σ' : Sg} {d : Dt} (h : UndoI σ d) (h0 : σ' 0 9 = σ 0 9) (h1 : σ' 3 = σ 3) : UndoI σ' d := ⟨by rw [h0]; exact h.1, fun j hj => by rw [h1]; exact h.2 j hj⟩
theorem SurvI.kept {σ σ' : Sg} {d : Dt} (h : SurvI σ d) (h0 : σ' 29 = σ 29) (h1 : σ' 30 = σ 30) (h2 : σ' 31 = σ 31) : SurvI σ' d := by
  unfold SurvI SurvK
  rw [h0, h2]
  rcases h with s | ⟨s1, s2, s3, s4, s5, s6, s7, s8⟩
  · exact Or.inl s
  · exact Or.inr ⟨s1, s2, s3, s4, s5, s6, fun hk => (s7 hk).kept h1, s8⟩
/-- of the store only what a part speaks of matters -/
theorem KeptI.to {σ : Sg} {d d' : Dt} (h : KeptI σ d) (e0 : dk d' = dk d) (en : dn d' = dn d) (e : ∀ j, d' (30 + j) = d (30 + j)) : KeptI σ d' := by
  unfold KeptI
  rw [e0, en]
  refine ⟨h.1, h.2.1, fun j hj => ?_⟩
  rw [e j]
  exact h.2.2 j hj
theorem UndoI.to {σ : Sg} {d d' : Dt} (h : UndoI σ d) (e0 : du d' = du d) (en : dn d' = dn d) (eb : db d' = db d) (e5 : d' 5 = d 5) (e : ∀ j, d' (20 + j) = d (20 + j)) : UndoI σ d' := by
  have hs : ∀ j, nxS d' j = nxS d j := fun j => by unfold nxS; rw [e0, e5, e (j + 1)]
  have hb : ∀ j, nxB d' j = nxB d j := fun j => by unfold nxB; rw [e0, eb, e (j + 1)]
  unfold UndoI
  rw [e0, en]
  refine ⟨h.1, fun j hj => ?_⟩
  rw [e j, hs j, hb j]
  exact h.2 j hj
theorem past_to {σ : Sg} {d d' : Dt} (e0 : du d' = du d) (en : dn d' = dn d) (e : ∀ j, d' (20 + j) = d (20 + j)) (h : ∀ j, j < du d → (∀ i, i < dn d → σ 45 (8 * j + i) = ((d (20 + j) i : Nat) : Int)) ∧ σ 45 (8 * j + 7) = ((d (20 + j) 7 : Nat) : Int)) : ∀ j, j < du d' → (∀ i, i < dn d' → σ 45 (8 * j + i) = ((d' (20 + j) i : Nat) : Int)) ∧ σ 45 (8 * j + 7) = ((d' (20 + j) 7 : Nat) : Int) := by
  rw [e0, en]
  intro j hj
  rw [e j]
  exact h j hj
theorem keep_to {σ : Sg} {d d' : Dt} (e0 : dk d' = dk d) (en : dn d' = dn d) (e : ∀ j, d' (30 + j) = d (30 + j)) (h : ∀ j, j < dk d → (∀ i, i < dn d → σ 46 (8 * j + i) = ((d (30 + j) i : Nat) : Int)) ∧ σ 46 (8 * j + 7) = ((d (30 + j) 7 : Nat) : Int)) : ∀ j, j < dk d' → (∀ i, i < dn d' → σ 46 (8 * j + i) = ((d' (30 + j) i : Nat) : Int)) ∧ σ 46 (8 * j + 7) = ((d' (30 + j) 7 : Nat) : Int) := by
  rw [e0, en]
  intro j hj
  rw [e j]
  exact h j hj
theorem okp_to {d d' : Dt} (e0 : du d' = du d) (en : dn d' = dn d) (e : ∀ j, d' (20 + j) = d (20 + j)) (h : ∀ j, j < du d → PermS (dn d) (d (20 + j)) ∧ d (20 + j) 7 < 2 ^ dn d) : ∀ j, j < du d' → PermS (dn d') (d' (20 + j)) ∧ d' (20 + j) 7 < 2 ^ dn d' := by
  rw [e0, en]
  intro j hj
  rw [e j]
  exact h j hj
theorem okk_to {d d' : Dt} (e0 : dk d' = dk d) (en : dn d' = dn d) (e : ∀ j, d' (30 + j) = d (30 + j)) (h : ∀ j, j < dk d → PermS (dn d) (d (30 + j)) ∧ d (30 + j) 7 < 2 ^ dn d) : ∀ j, j < dk d' → PermS (dn d') (d' (30 + j)) ∧ d' (30 + j) 7 < 2 ^ dn d' := by
  rw [e0, en]
  intro j hj
  rw [e j]
  exact h j hj
theorem uq_row {d : Dt} {p i x q : Nat} (h : q ≠ p) : uq d p i x q = d q := by
  funext j
  exact if_neg (fun z => h z.1)
theorem uq_0 {d : Dt} {i x j : Nat} (h : j ≠ i) : uq d 0 i x 0 j = d 0 j := if_neg (fun z => h z.2)
-- wipe
theorem c_wipe {d : Dt} {σ : Sg} (hI : InvC σ d) : Cal 34 [vR 0] σ = some (vI ((dL d : Nat) : Int), up σ 11 1 0) ∧ InvC (up σ 11 1 0) (uq d 0 4 0) ∧ FrC σ (up σ 11 1 0) := by
  obtain ⟨b1, b2, b3, b4, b5, b6, b7, b8⟩ := hI
  refine ⟨(q34_0 σ).trans (by rw [b4.1]), ⟨?_, ?_, ?_, ?_, ?_, ?_, ?_, ?_⟩, fun q hq => up_ne (by omega)⟩
  · exact b1.kept (up_ne (by decide)) (up_ne (by decide)) (up_ne (by decide)) (up_ne (by decide)) (up_ne (by decide))
  · exact b2.kept (up_ne (by decide)) (by simp [up_at])
  · exact b3.kept (up_ne (by decide)) (up_ne (by decide)) (up_ne (by decide))
  · exact ⟨by simp [up_at, dL, uq], fun j hj => by simp [dL, uq] at hj⟩
  · exact b5.kept (by simp [up_at]) (up_ne (by decide)) (up_ne (by decide)) (up_ne (by decide))
  · have z : KeptI (up σ 11 1 0) d := b6.kept (by simp [up_at]) (up_ne (by decide)) (up_ne (by decide)) (up_ne (by decide))
    exact z.to (uq_0 (by decide)) (uq_0 (by decide)) (fun j => uq_row (by omega))
  · have z : UndoI (up σ 11 1 0) d := b7.kept (by simp [up_at]) (up_ne (by decide))
    exact z.to (uq_0 (by decide)) (uq_0 (by decide)) (uq_0 (by decide)) (uq_row (by decide)) (fun j => uq_row (by omega))
  · exact b8.kept (up_ne (by decide)) (up_ne (by decide)) (up_ne (by decide))
theorem uq_2 {d : Dt} {k i x j : Nat} (hk : k < 20) : uq d k i x (20 + j) = d (20 + j) := uq_row (by omega)
theorem uq_3 {d : Dt} {k i x j : Nat} (hk : k < 20) : uq d k i x (30 + j) = d (30 + j) := uq_row (by omega)
theorem m_wipe {d : Dt} {σ : Sg} (hM : InvM σ d) : Cal 84 [vR 40] σ = some (vI ((dL d : Nat) : Int), up σ 40 1 0) ∧ InvM (up σ 40 1 0) (uq d 0 4 0) ∧ FrM σ (up σ 40 1 0) := by
  obtain ⟨m1, m2, m3, m4, m5, m6, m7, m8⟩ := hM
  refine ⟨(q84_0 σ).trans (by rw [m5.1]), ⟨m1.kept (up_ne (by decide)), ?_, ?_, ?_, ?_, ?_, ?_, ?_⟩, fun q hq => up_ne (by omega)⟩
  · rw [up_ne (by decide)]; exact m2
  · rw [up_ne (by decide)]; exact m3
  · rw [up_ne (by decide)]; exact m4
  · exact ⟨by simp [up_at, dL, uq], fun j hj => by simp [dL, uq] at hj⟩
  · rw [up_ne (q := 45) (by decide)]; exact ⟨by rw [up_j, if_neg (by decide)]; exact m6.1, past_to (uq_0 (by decide)) (uq_0 (by decide)) (fun j => uq_2 (by decide)) m6.2⟩
  · rw [up_ne (q := 46) (by decide)]; exact ⟨by rw [up_j, if_neg (by decide)]; exact m7.1, keep_to (uq_0 (by decide)) (uq_0 (by decide)) (fun j => uq_3 (by decide)) m7.2⟩
  · rw [up_ne (q := 47) (by decide)]; exact ⟨by rw [up_j, if_neg (by decide)]; exact m8.1, m8.2⟩
theorem ok_wipe {d : Dt} (hO : OkD d) : OkD (uq d 0 4 0) := by
  obtain ⟨⟨a1, a2, a3, a4, a5, a6, a7, a8, a9⟩, o2, o3, o4, o5, o6, o7, o8⟩ := hO
  exact ⟨⟨a1, a2, a3, a4, a5, by simp [dL, uq], a7, a8, a9⟩, o2, o3, o4, fun j hj => by simp [dL, uq] at hj, o6, okp_to (uq_0 (by decide)) (uq_0 (by decide)) (fun j => uq_2 (by decide)) o7, okk_to (uq_0 (by decide)) (uq_0 (by decide)) (fun j => uq_3 (by decide)) o8⟩
-- forget
theorem c_forget {d : Dt} {σ : Sg} (hI : InvC σ d) : Cal 65 [vR 0] σ = some (vI ((dh d : Nat) : Int), up σ 0 13 0) ∧ InvC (up σ 0 13 0) (uq d 0 5 0) ∧ FrC σ (up σ 0 13 0) := by
  obtain ⟨b1, b2, b3, b4, b5, b6, b7, b8⟩ := hI
  refine ⟨(q65_0 σ).trans (by rw [b5.1]), ⟨?_, ?_, ?_, ?_, ?_, ?_, ?_, ?_⟩, fun q hq => up_ne (by omega)⟩
  · exact b1.kept (up_ne (by decide)) (up_ne (by decide)) (up_ne (by decide)) (up_ne (by decide)) (up_ne (by decide))
  · exact b2.kept (up_ne (by decide)) (by simp [up_at])
  · exact b3.kept (up_ne (by decide)) (up_ne (by decide)) (up_ne (by decide))
  · exact b4.kept (by simp [up_at]) (up_ne (by decide))
  · exact ⟨by simp [up_at, dh, uq], fun j hj => by simp [dh, uq] at hj⟩
  · have z : KeptI (up σ 0 13 0) d := b6.kept (by simp [up_at]) (up_ne (by decide)) (up_ne (by decide)) (up_ne (by decide))
    exact z.to (uq_0 (by decide)) (uq_0 (by decide)) (fun j => uq_row (by omega))
  · have z : UndoI (up σ 0 13 0) d := b7.kept (by simp [up_at]) (up_ne (by decide))
    exact z.to (uq_0 (by decide)) (uq_0 (by decide)) (uq_0 (by decide)) (uq_row (by decide)) (fun j => uq_row (by omega))
  · exact b8.kept (up_ne (by decide)) (up_ne (by decide)) (up_ne (by decide))
theorem m_forget {d : Dt} {σ : Sg} (hM : InvM σ d) : Cal 124 [vR 40] σ = some (vI ((dh d : Nat) : Int), up σ 40 10 0) ∧ InvM (up σ 40 10 0) (uq d 0 5 0) ∧ FrM σ (up σ 40 10 0) := by
  obtain ⟨m1, m2, m3, m4, m5, m6, m7, m8⟩ := hM
  refine ⟨(q124_0 σ).trans (by rw [m8.1]), ⟨m1.kept (up_ne (by decide)), ?_, ?_, ?_, ?_, ?_, ?_, ?_⟩, fun q hq => up_ne (by omega)⟩
  · rw [up_ne (by decide)]; exact m2
  · rw [up_ne (by decide)]; exact m3
  · rw [up_ne (by decide)]; exact m4
  · rw [up_ne (q := 41) (by decide)]; exact ⟨by rw [up_j, if_neg (by decide)]; exact m5.1, m5.2⟩
  · rw [up_ne (q := 45) (by decide)]; exact ⟨by rw [up_j, if_neg (by decide)]; exact m6.1, past_to (uq_0 (by decide)) (uq_0 (by decide)) (fun j => uq_2 (by decide)) m6.2⟩
  · rw [up_ne (q := 46) (by decide)]; exact ⟨by rw [up_j, if_neg (by decide)]; exact m7.1, keep_to (uq_0 (by decide)) (uq_0 (by decide)) (fun j => uq_3 (by decide)) m7.2⟩
  · exact ⟨by simp [up_at, dh, uq], fun j hj => by simp [dh, uq] at hj⟩
theorem ok_forget {d : Dt} (hO : OkD d) : OkD (uq d 0 5 0) := by
  obtain ⟨⟨a1, a2, a3, a4, a5, a6, a7, a8, a9⟩, o2, o3, o4, o5, o6, o7, o8⟩ := hO
  exact ⟨⟨a1, a2, a3, a4, a5, a6, by simp [dh, uq], a8, a9⟩, o2, o3, o4, o5, fun j hj => by simp [dh, uq] at hj, okp_to (uq_0 (by decide)) (uq_0 (by decide)) (fun j => uq_2 (by decide)) o7, okk_to (uq_0 (by decide)) (uq_0 (by decide)) (fun j => uq_3 (by decide)) o8⟩
-- write
def r_write (d : Dt) (x : Int) : Int := if 32 ≤ x ∧ x ≤ 126 then (if dL d = 200 then -3 else ((dL d : Nat) : Int) + 1) else -1
def d_write (d : Dt) (x : Int) : Dt := if 32 ≤ x ∧ x ≤ 126 then (if dL d = 200 then d else uq (uq d 6 (dL d) x.toNat) 0 4 (dL d + 1)) else d
theorem c_write {d : Dt} {σ : Sg} {x : Int} (hO : OkD d) (hI : InvC σ d) (hx : InR x) : ∃ σ', Cal 33 [vR 0, vI x] σ = some (vI (r_write d x), σ') ∧ InvC σ' (d_write d x) ∧ FrC σ σ' := by
  have hL := hO.1.2.2.2.2.2.1
  have e0 : Cal 33 [vR 0, vI x] σ = _ := q33_0 x σ
  have w32 : wr 32 = 32 := by decide
  have w126 : wr 126 = 126 := by decide
  have w200 : wr 200 = 200 := by decide
  unfold r_write d_write
  rw [wr_in hx, w32, w126] at e0
  by_cases c : 32 ≤ x ∧ x ≤ 126
  · rw [if_neg (by omega), if_neg (by omega), show x % 65536 = x by omega] at e0
    rw [if_pos c, if_pos c]
    have e1 : Cal 14 [vR 11, vI x] σ = _ := q14_0 x σ
    rw [hI.2.2.2.1.1, w200, wr_id (x := (dL d : Int)) (by omega) (by omega)] at e1
    by_cases c1 : dL d = 200
    · rw [if_neg (by omega), if_pos (Or.inl rfl)] at e1
      rw [e1, kcI_s, wr_0, if_pos rfl] at e0
      rw [if_pos c1, if_pos c1]
      exact ⟨σ, e0, hI, FrC.rf σ⟩
    · rw [if_pos (by omega), if_pos (by omega), if_pos (Or.inr rfl), toN, up_p _ _ _ (by decide), hI.2.2.2.1.1] at e1
      rw [e1, kcI_s, wr_1, if_neg (by decide), up_e] at e0
      rw [if_neg c1, if_neg c1]
      obtain ⟨b1, b2, b3, b4, b5, b6, b7, b8⟩ := hI
      refine ⟨_, e0, ⟨?_, ?_, ?_, ?_, ?_, ?_, ?_, ?_⟩, fun q hq => by rw [up_ne (by omega), up_ne (by omega)]⟩
      · exact b1.kept (by rw [up_ne (by decide), up_ne (by decide)]) (by rw [up_ne (by decide), up_ne (by decide)]) (by rw [up_ne (by decide), up_ne (by decide)]) (by rw [up_ne (by decide), up_ne (by decide)]) (by rw [up_ne (by decide), up_ne (by decide)])
      · exact b2.kept (by rw [up_ne (by decide), up_ne (by decide)]) (by simp [up_at])
      · exact b3.kept (by rw [up_ne (by decide), up_ne (by decide)]) (by rw [up_ne (by decide), up_ne (by decide)]) (by rw [up_ne (by decide), up_ne (by decide)])
      · refine ⟨by simp [up_at, dL, uq], fun j hj => ?_⟩
        have hj2 : j < dL d + 1 := by simpa [dL, uq] using hj
        have e6 : uq (uq d 6 (dL d) x.toNat) 0 4 (dL d + 1) 6 j = if j = dL d then x.toNat else d 6 j := by simp [uq]
        rw [e6, up_p _ _ _ (by decide), up_j]
        by_cases c2 : j = dL d
        · rw [if_pos c2, if_pos c2]; omega
        · rw [if_neg c2, if_neg c2]; exact b4.2 j (by omega)
      · exact b5.kept (by simp [up_at]) (by rw [up_ne (by decide), up_ne (by decide)]) (by rw [up_ne (by decide), up_ne (by decide)]) (by rw [up_ne (by decide), up_ne (by decide)])
      · have z : KeptI (up (up σ 12 (dL d) x) 11 1 (((dL d : Nat) : Int) + 1)) d := b6.kept (by simp [up_at]) (by rw [up_ne (by decide), up_ne (by decide)]) (by rw [up_ne (by decide), up_ne (by decide)]) (by rw [up_ne (by decide), up_ne (by decide)])
        exact z.to ((uq_0 (by decide)).trans (congrFun (uq_row (by decide)) _)) ((uq_0 (by decide)).trans (congrFun (uq_row (by decide)) _)) (fun j => (uq_row (by omega)).trans (uq_row (by omega)))
      · have z : UndoI (up (up σ 12 (dL d) x) 11 1 (((dL d : Nat) : Int) + 1)) d := b7.kept (by simp [up_at]) (by rw [up_ne (by decide), up_ne (by decide)])
        exact z.to ((uq_0 (by decide)).trans (congrFun (uq_row (by decide)) _)) ((uq_0 (by decide)).trans (congrFun (uq_row (by decide)) _)) ((uq_0 (by decide)).trans (congrFun (uq_row (by decide)) _)) ((uq_row (by decide)).trans (uq_row (by decide))) (fun j => (uq_row (by omega)).trans (uq_row (by omega)))
      · exact b8.kept (by rw [up_ne (by decide), up_ne (by decide)]) (by rw [up_ne (by decide), up_ne (by decide)]) (by rw [up_ne (by decide), up_ne (by decide)])
  · rw [if_neg c, if_neg c]
    refine ⟨σ, e0.trans ?_, hI, FrC.rf σ⟩
    by_cases c1 : x < 32
    · rw [if_pos c1]
    · rw [if_neg c1, if_pos (by omega)]
theorem m_write {d : Dt} {σ : Sg} {x : Int} (hO : OkD d) (hM : InvM σ d) (hx : InR x) : ∃ σ', Cal 83 [vR 40, vI x] σ = some (vI (r_write d x), σ') ∧ InvM σ' (d_write d x) ∧ FrM σ σ' := by
  have hL := hO.1.2.2.2.2.2.1
  have e0 : Cal 83 [vR 40, vI x] σ = _ := q83_0 x σ
  have w200 : wr 200 = 200 := by decide
  unfold r_write d_write
  rw [in_m hx ⟨by omega, by omega⟩ ⟨by omega, by omega⟩, kcI_s] at e0
  by_cases c : 32 ≤ x ∧ x ≤ 126
  · rw [if_pos c, wr_1, if_neg (by decide), hM.2.2.2.2.1.1, w200, wr_id (x := (dL d : Int)) (by omega) (by omega)] at e0
    rw [if_pos c, if_pos c]
    by_cases c1 : dL d = 200
    · rw [if_pos (by omega)] at e0
      rw [if_pos c1, if_pos c1]
      exact ⟨σ, e0, hM, FrM.rf σ⟩
    · rw [if_neg (by omega), if_pos (by omega), toN, up_e, up_p _ _ _ (by decide), hM.2.2.2.2.1.1] at e0
      rw [if_neg c1, if_neg c1]
      obtain ⟨m1, m2, m3, m4, m5, m6, m7, m8⟩ := hM
      refine ⟨_, e0, ⟨m1.kept (by rw [up_ne (by decide), up_ne (by decide)]), ?_, ?_, ?_, ?_, ?_, ?_, ?_⟩, fun q hq => by rw [up_ne (by omega), up_ne (by omega)]⟩
      · rw [up_ne (q := 42) (by decide), up_ne (q := 42) (by decide)]; exact m2
      · rw [up_ne (q := 42) (by decide), up_ne (q := 42) (by decide)]; exact m3
      · rw [up_ne (q := 44) (by decide), up_ne (q := 44) (by decide)]; exact m4
      · refine ⟨by simp [up_at, dL, uq], fun j hj => ?_⟩
        have hj2 : j < dL d + 1 := by simpa [dL, uq] using hj
        have e6 : uq (uq d 6 (dL d) x.toNat) 0 4 (dL d + 1) 6 j = if j = dL d then x.toNat else d 6 j := by simp [uq]
        rw [e6, up_p _ _ _ (by decide), up_j]
        by_cases c2 : j = dL d
        · rw [if_pos c2, if_pos c2]; omega
        · rw [if_neg c2, if_neg c2]; exact m5.2 j (by omega)
      · rw [up_ne (q := 45) (by decide), up_ne (q := 45) (by decide)]; exact ⟨by simp [up_at]; exact m6.1, past_to ((uq_0 (by decide)).trans (congrFun (uq_row (by decide)) _)) ((uq_0 (by decide)).trans (congrFun (uq_row (by decide)) _)) (fun j => (uq_2 (by decide)).trans (uq_2 (by decide))) m6.2⟩
      · rw [up_ne (q := 46) (by decide), up_ne (q := 46) (by decide)]; exact ⟨by simp [up_at]; exact m7.1, keep_to ((uq_0 (by decide)).trans (congrFun (uq_row (by decide)) _)) ((uq_0 (by decide)).trans (congrFun (uq_row (by decide)) _)) (fun j => (uq_3 (by decide)).trans (uq_3 (by decide))) m7.2⟩
      · rw [up_ne (q := 47) (by decide), up_ne (q := 47) (by decide)]; exact ⟨by simp [up_at]; exact m8.1, m8.2⟩
  · rw [if_neg c, wr_0, if_pos rfl] at e0
    rw [if_neg c, if_neg c]
    exact ⟨σ, e0, hM, FrM.rf σ⟩
theorem ok_write {d : Dt} {x : Int} (hO : OkD d) : OkD (d_write d x) := by
  unfold d_write
  by_cases c : 32 ≤ x ∧ x ≤ 126
  · rw [if_pos c]
    by_cases c1 : dL d = 200
    · rw [if_pos c1]; exact hO
    · rw [if_neg c1]
      obtain ⟨⟨a1, a2, a3, a4, a5, a6, a7, a8, a9⟩, o2, o3, o4, o5, o6, o7, o8⟩ := hO
      refine ⟨⟨a1, a2, a3, a4, a5, ?_, a7, a8, a9⟩, o2, o3, o4, fun j hj => ?_, o6, okp_to ((uq_0 (by decide)).trans (congrFun (uq_row (by decide)) _)) ((uq_0 (by decide)).trans (congrFun (uq_row (by decide)) _)) (fun j => (uq_2 (by decide)).trans (uq_2 (by decide))) o7, okk_to ((uq_0 (by decide)).trans (congrFun (uq_row (by decide)) _)) ((uq_0 (by decide)).trans (congrFun (uq_row (by decide)) _)) (fun j => (uq_3 (by decide)).trans (uq_3 (by decide))) o8⟩
      · show uq (uq d 6 (dL d) x.toNat) 0 4 (dL d + 1) 0 4 ≤ 200
        simp [uq]; omega
      · have hj2 : j < dL d + 1 := by simpa [dL, uq] using hj
        have e6 : uq (uq d 6 (dL d) x.toNat) 0 4 (dL d + 1) 6 j = if j = dL d then x.toNat else d 6 j := by simp [uq]
        rw [e6]
        by_cases c2 : j = dL d
        · rw [if_pos c2]; omega
        · rw [if_neg c2]; exact o5 j (by omega)
  · rw [if_neg c]; exact hO
