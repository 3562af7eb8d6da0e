/-! THE LAW'S LOOP -/
def JJ (σ : Sg) (d : Dt) : Prop := OkD d ∧ InvC σ d ∧ InvM σ d
theorem InvM.fc {σ τ : Sg} {d : Dt} (h : InvM σ d) (k : FrC σ τ) : InvM τ d := h.kept (k _ (by decide)) (k _ (by decide)) (k _ (by decide)) (k _ (by decide)) (k _ (by decide)) (k _ (by decide)) (by rw [k _ (by decide)]) (by rw [k _ (by decide)]) (by rw [k _ (by decide)]) (by rw [k _ (by decide)])
theorem bo_write {d : Dt} {σ : Sg} {x : Int} (hO : OkD d) (hI : InvC σ d) (hM : InvM σ d) (hx : InR x) : ∃ (r : Int) (s1 s2 : Sg) (d' : Dt), Cal 33 [vR 0, vI x] σ = some (vI r, s1) ∧ Cal 83 [vR 40, vI x] s1 = some (vI r, s2) ∧ OkD d' ∧ InvC s1 d' ∧ FrC σ s1 ∧ InvM s2 d' ∧ FrM s1 s2 := by
  obtain ⟨s1, a1, a2, a3⟩ := c_write hO hI hx
  obtain ⟨s2, b1, b2, b3⟩ := m_write hO (hM.fc a3) hx
  exact ⟨_, s1, s2, _, a1, b1, ok_write hO, a2, a3, b2, b3⟩
theorem bo_wipe {d : Dt} {σ : Sg} (hO : OkD d) (hI : InvC σ d) (hM : InvM σ d)  : ∃ (r : Int) (s1 s2 : Sg) (d' : Dt), Cal 34 [vR 0] σ = some (vI r, s1) ∧ Cal 84 [vR 40] s1 = some (vI r, s2) ∧ OkD d' ∧ InvC s1 d' ∧ FrC σ s1 ∧ InvM s2 d' ∧ FrM s1 s2 := by
  obtain ⟨a1, a2, a3⟩ := c_wipe hI
  obtain ⟨b1, b2, b3⟩ := m_wipe (hM.fc a3)
  exact ⟨_, _, _, _, a1, b1, ok_wipe hO, a2, a3, b2, b3⟩
theorem bo_fault {d : Dt} {σ : Sg} (hO : OkD d) (hI : InvC σ d) (hM : InvM σ d)  : ∃ (r : Int) (s1 s2 : Sg) (d' : Dt), Cal 35 [vR 0] σ = some (vI r, s1) ∧ Cal 90 [vR 40] s1 = some (vI r, s2) ∧ OkD d' ∧ InvC s1 d' ∧ FrC σ s1 ∧ InvM s2 d' ∧ FrM s1 s2 := by
  obtain ⟨s1, a1, a2, a3⟩ := c_fault hO hI
  obtain ⟨s2, b1, b2, b3⟩ := m_fault hO (hM.fc a3)
  exact ⟨_, s1, s2, _, a1, b1, hO, a2, a3, b2, b3⟩
theorem bo_lay {d : Dt} {σ : Sg} (hO : OkD d) (hI : InvC σ d) (hM : InvM σ d)  : ∃ (r : Int) (s1 s2 : Sg) (d' : Dt), Cal 36 [vR 0] σ = some (vI r, s1) ∧ Cal 91 [vR 40] s1 = some (vI r, s2) ∧ OkD d' ∧ InvC s1 d' ∧ FrC σ s1 ∧ InvM s2 d' ∧ FrM s1 s2 := by
  obtain ⟨s1, a1, a2, a3, a4⟩ := c_lay hO hI
  obtain ⟨s2, b1, b2, b3⟩ := m_lay hO (hM.fc a3)
  exact ⟨_, s1, s2, _, a1, b1, a4, a2, a3, b2, b3⟩
theorem bo_instr {d : Dt} {σ : Sg} {x y : Int} (hO : OkD d) (hI : InvC σ d) (hM : InvM σ d) (hx : InR x) (hy : InR y) : ∃ (r : Int) (s1 s2 : Sg) (d' : Dt), Cal 39 [vR 0, vI x, vI y] σ = some (vI r, s1) ∧ Cal 97 [vR 40, vI x, vI y] s1 = some (vI r, s2) ∧ OkD d' ∧ InvC s1 d' ∧ FrC σ s1 ∧ InvM s2 d' ∧ FrM s1 s2 := by
  have a1 := c_instr hO hI hx hy
  obtain ⟨s2, b1, b2, b3⟩ := m_instr hO hM hx hy
  exact ⟨_, σ, s2, d, a1, b1, hO, hI, FrC.rf σ, b2, b3⟩
theorem bo_seat {d : Dt} {σ : Sg} {x : Int} (hO : OkD d) (hI : InvC σ d) (hM : InvM σ d) (hx : InR x) : ∃ (r : Int) (s1 s2 : Sg) (d' : Dt), Cal 40 [vR 0, vI x] σ = some (vI r, s1) ∧ Cal 98 [vR 40, vI x] s1 = some (vI r, s2) ∧ OkD d' ∧ InvC s1 d' ∧ FrC σ s1 ∧ InvM s2 d' ∧ FrM s1 s2 := by
  have a1 := c_seat hO hI hx
  have b1 := m_seat hO hM hx
  exact ⟨_, σ, σ, d, a1, b1, hO, hI, FrC.rf σ, hM, FrM.rf σ⟩
theorem bo_asked {d : Dt} {σ : Sg} {x : Int} (hO : OkD d) (hI : InvC σ d) (hM : InvM σ d) (hx : InR x) : ∃ (r : Int) (s1 s2 : Sg) (d' : Dt), Cal 42 [vR 0, vI x] σ = some (vI r, s1) ∧ Cal 99 [vR 40, vI x] s1 = some (vI r, s2) ∧ OkD d' ∧ InvC s1 d' ∧ FrC σ s1 ∧ InvM s2 d' ∧ FrM s1 s2 := by
  have a1 := c_asked hO hI hx
  have b1 := m_asked hO hM hx
  exact ⟨_, σ, σ, d, a1, b1, hO, hI, FrC.rf σ, hM, FrM.rf σ⟩
theorem bo_plays {d : Dt} {σ : Sg} {x : Int} (hO : OkD d) (hI : InvC σ d) (hM : InvM σ d) (hx : InR x) : ∃ (r : Int) (s1 s2 : Sg) (d' : Dt), Cal 43 [vR 0, vI x] σ = some (vI r, s1) ∧ Cal 100 [vR 40, vI x] s1 = some (vI r, s2) ∧ OkD d' ∧ InvC s1 d' ∧ FrC σ s1 ∧ InvM s2 d' ∧ FrM s1 s2 := by
  have a1 := c_plays hO hI hx
  obtain ⟨s2, b1, b2, b3⟩ := m_plays hO hM hx
  exact ⟨_, σ, s2, d, a1, b1, hO, hI, FrC.rf σ, b2, b3⟩
theorem bo_missing {d : Dt} {σ : Sg} {x : Int} (hO : OkD d) (hI : InvC σ d) (hM : InvM σ d) (hx : InR x) : ∃ (r : Int) (s1 s2 : Sg) (d' : Dt), Cal 45 [vR 0, vI x] σ = some (vI r, s1) ∧ Cal 101 [vR 40, vI x] s1 = some (vI r, s2) ∧ OkD d' ∧ InvC s1 d' ∧ FrC σ s1 ∧ InvM s2 d' ∧ FrM s1 s2 := by
  have a1 := c_missing hO hI hx
  obtain ⟨s2, b1, b2, b3⟩ := m_missing hO hM hx
  exact ⟨_, σ, s2, d, a1, b1, hO, hI, FrC.rf σ, b2, b3⟩
theorem bo_first {d : Dt} {σ : Sg} (hO : OkD d) (hI : InvC σ d) (hM : InvM σ d)  : ∃ (r : Int) (s1 s2 : Sg) (d' : Dt), Cal 46 [vR 0] σ = some (vI r, s1) ∧ Cal 102 [vR 40] s1 = some (vI r, s2) ∧ OkD d' ∧ InvC s1 d' ∧ FrC σ s1 ∧ InvM s2 d' ∧ FrM s1 s2 := by
  have a1 := c_first hO hI
  obtain ⟨s2, b1, b2, b3⟩ := m_first hO hM
  exact ⟨_, σ, s2, d, a1, b1, hO, hI, FrC.rf σ, b2, b3⟩
theorem bo_notes {d : Dt} {σ : Sg} {x : Int} (hO : OkD d) (hI : InvC σ d) (hM : InvM σ d) (hx : InR x) : ∃ (r : Int) (s1 s2 : Sg) (d' : Dt), Cal 47 [vR 0, vI x] σ = some (vI r, s1) ∧ Cal 103 [vR 40, vI x] s1 = some (vI r, s2) ∧ OkD d' ∧ InvC s1 d' ∧ FrC σ s1 ∧ InvM s2 d' ∧ FrM s1 s2 := by
  have a1 := c_notes hI hx
  obtain ⟨s2, b1, b2, b3⟩ := m_notes hO hM hx
  exact ⟨_, σ, s2, d, a1, b1, hO, hI, FrC.rf σ, b2, b3⟩
theorem bo_change {d : Dt} {σ : Sg} {x y : Int} (hO : OkD d) (hI : InvC σ d) (hM : InvM σ d) (hx : InR x) (hy : InR y) : ∃ (r : Int) (s1 s2 : Sg) (d' : Dt), Cal 49 [vR 0, vI x, vI y] σ = some (vI r, s1) ∧ Cal 105 [vR 40, vI x, vI y] s1 = some (vI r, s2) ∧ OkD d' ∧ InvC s1 d' ∧ FrC σ s1 ∧ InvM s2 d' ∧ FrM s1 s2 := by
  obtain ⟨s1, a1, a2, a3⟩ := cc_change hO hI hx hy
  obtain ⟨s2, b1, b2, b3⟩ := mm_change hO (hM.fc a3) hx hy
  exact ⟨_, s1, s2, _, a1, b1, ok_change hO, a2, a3, b2, b3⟩
theorem bo_bribe {d : Dt} {σ : Sg} {x : Int} (hO : OkD d) (hI : InvC σ d) (hM : InvM σ d) (hx : InR x) : ∃ (r : Int) (s1 s2 : Sg) (d' : Dt), Cal 51 [vR 0, vI x] σ = some (vI r, s1) ∧ Cal 107 [vR 40, vI x] s1 = some (vI r, s2) ∧ OkD d' ∧ InvC s1 d' ∧ FrC σ s1 ∧ InvM s2 d' ∧ FrM s1 s2 := by
  obtain ⟨s1, a1, a2, a3⟩ := cc_bribe hO hI hx
  obtain ⟨s2, b1, b2, b3⟩ := mm_bribe hO (hM.fc a3) hx
  exact ⟨_, s1, s2, _, a1, b1, ok_bribe hO, a2, a3, b2, b3⟩
theorem bo_undo {d : Dt} {σ : Sg} (hO : OkD d) (hI : InvC σ d) (hM : InvM σ d)  : ∃ (r : Int) (s1 s2 : Sg) (d' : Dt), Cal 52 [vR 0] σ = some (vI r, s1) ∧ Cal 108 [vR 40] s1 = some (vI r, s2) ∧ OkD d' ∧ InvC s1 d' ∧ FrC σ s1 ∧ InvM s2 d' ∧ FrM s1 s2 := by
  obtain ⟨s1, a1, a2, a3⟩ := cc_undo hO hI
  obtain ⟨s2, b1, b2, b3⟩ := mm_undo hO (hM.fc a3)
  exact ⟨_, s1, s2, _, a1, b1, okk_undo hO, a2, a3, b2, b3⟩
theorem bo_best {d : Dt} {σ : Sg} {x : Int} (hO : OkD d) (hI : InvC σ d) (hM : InvM σ d) (hx : InR x) : ∃ (r : Int) (s1 s2 : Sg) (d' : Dt), Cal 54 [vR 0, vI x] σ = some (vI r, s1) ∧ Cal 112 [vR 40, vI x] s1 = some (vI r, s2) ∧ OkD d' ∧ InvC s1 d' ∧ FrC σ s1 ∧ InvM s2 d' ∧ FrM s1 s2 := by
  obtain ⟨s1, a1, a2, a3⟩ := c_best hO hI hx
  obtain ⟨s2, b1, b2, b3⟩ := m_best hO (hM.fc a3) hx
  exact ⟨_, s1, s2, _, a1, b1, hO, a2, a3, b2, b3⟩
theorem bo_changes {d : Dt} {σ : Sg} (hO : OkD d) (hI : InvC σ d) (hM : InvM σ d)  : ∃ (r : Int) (s1 s2 : Sg) (d' : Dt), Cal 55 [vR 0] σ = some (vI r, s1) ∧ Cal 114 [vR 40] s1 = some (vI r, s2) ∧ OkD d' ∧ InvC s1 d' ∧ FrC σ s1 ∧ InvM s2 d' ∧ FrM s1 s2 := by
  obtain ⟨s1, a1, a2, a3⟩ := c_changes hO hI
  obtain ⟨s2, b1, b2, b3⟩ := m_changes hO (hM.fc a3)
  exact ⟨_, s1, s2, _, a1, b1, hO, a2, a3, b2, b3⟩
theorem bo_help {d : Dt} {σ : Sg} {x : Int} (hO : OkD d) (hI : InvC σ d) (hM : InvM σ d) (hx : InR x) : ∃ (r : Int) (s1 s2 : Sg) (d' : Dt), Cal 56 [vR 0, vI x] σ = some (vI r, s1) ∧ Cal 115 [vR 40, vI x] s1 = some (vI r, s2) ∧ OkD d' ∧ InvC s1 d' ∧ FrC σ s1 ∧ InvM s2 d' ∧ FrM s1 s2 := by
  obtain ⟨s1, a1, a2, a3⟩ := c_help hO hI hx
  obtain ⟨s2, b1, b2, b3⟩ := m_help hO (hM.fc a3) hx
  exact ⟨_, s1, s2, _, a1, b1, hO, a2, a3, b2, b3⟩
theorem bo_bribes {d : Dt} {σ : Sg} {x : Int} (hO : OkD d) (hI : InvC σ d) (hM : InvM σ d) (hx : InR x) : ∃ (r : Int) (s1 s2 : Sg) (d' : Dt), Cal 57 [vR 0, vI x] σ = some (vI r, s1) ∧ Cal 116 [vR 40, vI x] s1 = some (vI r, s2) ∧ OkD d' ∧ InvC s1 d' ∧ FrC σ s1 ∧ InvM s2 d' ∧ FrM s1 s2 := by
  obtain ⟨s1, a1, a2, a3⟩ := c_bribes hO hI hx
  obtain ⟨s2, b1, b2, b3⟩ := m_bribes hO (hM.fc a3) hx
  exact ⟨_, s1, s2, _, a1, b1, hO, a2, a3, b2, b3⟩
theorem bo_rests {d : Dt} {σ : Sg} (hO : OkD d) (hI : InvC σ d) (hM : InvM σ d)  : ∃ (r : Int) (s1 s2 : Sg) (d' : Dt), Cal 58 [vR 0] σ = some (vI r, s1) ∧ Cal 117 [vR 40] s1 = some (vI r, s2) ∧ OkD d' ∧ InvC s1 d' ∧ FrC σ s1 ∧ InvM s2 d' ∧ FrM s1 s2 := by
  have a1 := c_rests hO hI
  obtain ⟨s2, b1, b2, b3⟩ := m_rests hO hM
  exact ⟨_, σ, s2, d, a1, b1, hO, hI, FrC.rf σ, b2, b3⟩
theorem bo_silence {d : Dt} {σ : Sg} {x : Int} (hO : OkD d) (hI : InvC σ d) (hM : InvM σ d) (hx : InR x) : ∃ (r : Int) (s1 s2 : Sg) (d' : Dt), Cal 59 [vR 0, vI x] σ = some (vI r, s1) ∧ Cal 118 [vR 40, vI x] s1 = some (vI r, s2) ∧ OkD d' ∧ InvC s1 d' ∧ FrC σ s1 ∧ InvM s2 d' ∧ FrM s1 s2 := by
  obtain ⟨s1, a1, a2, a3⟩ := c_silence hO hI hx
  obtain ⟨s2, b1, b2, b3⟩ := m_silence hO (hM.fc a3) hx
  exact ⟨_, s1, s2, _, a1, b1, hO, a2, a3, b2, b3⟩
theorem bo_alike {d : Dt} {σ : Sg} (hO : OkD d) (hI : InvC σ d) (hM : InvM σ d)  : ∃ (r : Int) (s1 s2 : Sg) (d' : Dt), Cal 60 [vR 0] σ = some (vI r, s1) ∧ Cal 119 [vR 40] s1 = some (vI r, s2) ∧ OkD d' ∧ InvC s1 d' ∧ FrC σ s1 ∧ InvM s2 d' ∧ FrM s1 s2 := by
  obtain ⟨s1, a1, a2, a3⟩ := c_alike hO hI
  obtain ⟨s2, b1, b2, b3⟩ := m_alike hO (hM.fc a3)
  exact ⟨_, s1, s2, _, a1, b1, hO, a2, a3, b2, b3⟩
theorem bo_odds {d : Dt} {σ : Sg} {x : Int} (hO : OkD d) (hI : InvC σ d) (hM : InvM σ d) (hx : InR x) : ∃ (r : Int) (s1 s2 : Sg) (d' : Dt), Cal 62 [vR 0, vI x] σ = some (vI r, s1) ∧ Cal 121 [vR 40, vI x] s1 = some (vI r, s2) ∧ OkD d' ∧ InvC s1 d' ∧ FrC σ s1 ∧ InvM s2 d' ∧ FrM s1 s2 := by
  obtain ⟨s1, a1, a2, a3⟩ := c_odds hO hI hx
  obtain ⟨s2, b1, b2, b3⟩ := m_odds hO (hM.fc a3) hx
  exact ⟨_, s1, s2, _, a1, b1, hO, a2, a3, b2, b3⟩
theorem bo_atLeast {d : Dt} {σ : Sg} {x y : Int} (hO : OkD d) (hI : InvC σ d) (hM : InvM σ d) (hx : InR x) (hy : InR y) : ∃ (r : Int) (s1 s2 : Sg) (d' : Dt), Cal 63 [vR 0, vI x, vI y] σ = some (vI r, s1) ∧ Cal 122 [vR 40, vI x, vI y] s1 = some (vI r, s2) ∧ OkD d' ∧ InvC s1 d' ∧ FrC σ s1 ∧ InvM s2 d' ∧ FrM s1 s2 := by
  obtain ⟨s1, a1, a2, a3⟩ := c_atLeast hO hI hx hy
  obtain ⟨s2, b1, b2, b3⟩ := m_atLeast hO (hM.fc a3) hx hy
  exact ⟨_, s1, s2, _, a1, b1, hO, a2, a3, b2, b3⟩
theorem bo_heard {d : Dt} {σ : Sg} {x y z : Int} (hO : OkD d) (hI : InvC σ d) (hM : InvM σ d) (hx : InR x) (hy : InR y) (hz : InR z) : ∃ (r : Int) (s1 s2 : Sg) (d' : Dt), Cal 64 [vR 0, vI x, vI y, vI z] σ = some (vI r, s1) ∧ Cal 123 [vR 40, vI x, vI y, vI z] s1 = some (vI r, s2) ∧ OkD d' ∧ InvC s1 d' ∧ FrC σ s1 ∧ InvM s2 d' ∧ FrM s1 s2 := by
  obtain ⟨s1, a1, a2, a3⟩ := c_heard hO hI hx hy hz
  obtain ⟨s2, b1, b2, b3⟩ := m_heard hO (hM.fc a3) hx hy hz
  exact ⟨_, s1, s2, _, a1, b1, ok_heard hO, a2, a3, b2, b3⟩
theorem bo_forget {d : Dt} {σ : Sg} (hO : OkD d) (hI : InvC σ d) (hM : InvM σ d)  : ∃ (r : Int) (s1 s2 : Sg) (d' : Dt), Cal 65 [vR 0] σ = some (vI r, s1) ∧ Cal 124 [vR 40] s1 = some (vI r, s2) ∧ OkD d' ∧ InvC s1 d' ∧ FrC σ s1 ∧ InvM s2 d' ∧ FrM s1 s2 := by
  obtain ⟨a1, a2, a3⟩ := c_forget hI
  obtain ⟨b1, b2, b3⟩ := m_forget (hM.fc a3)
  exact ⟨_, _, _, _, a1, b1, ok_forget hO, a2, a3, b2, b3⟩
theorem bo_kinds {d : Dt} {σ : Sg} {x : Int} (hO : OkD d) (hI : InvC σ d) (hM : InvM σ d) (hx : InR x) : ∃ (r : Int) (s1 s2 : Sg) (d' : Dt), Cal 67 [vR 0, vI x] σ = some (vI r, s1) ∧ Cal 125 [vR 40, vI x] s1 = some (vI r, s2) ∧ OkD d' ∧ InvC s1 d' ∧ FrC σ s1 ∧ InvM s2 d' ∧ FrM s1 s2 := by
  obtain ⟨s1, a1, a2, a3⟩ := c_kinds hO hI hx
  obtain ⟨s2, b1, b2, b3⟩ := m_kinds hO (hM.fc a3) hx
  exact ⟨_, s1, s2, _, a1, b1, hO, a2, a3, b2, b3⟩
theorem bo_hall {d : Dt} {σ : Sg} {x : Int} (hO : OkD d) (hI : InvC σ d) (hM : InvM σ d) (hx : InR x) : ∃ (r : Int) (s1 s2 : Sg) (d' : Dt), Cal 68 [vR 0, vI x] σ = some (vI r, s1) ∧ Cal 126 [vR 40, vI x] s1 = some (vI r, s2) ∧ OkD d' ∧ InvC s1 d' ∧ FrC σ s1 ∧ InvM s2 d' ∧ FrM s1 s2 := by
  obtain ⟨s1, a1, a2, a3⟩ := c_hall hO hI hx
  obtain ⟨s2, b1, b2, b3⟩ := m_hall hO (hM.fc a3) hx
  exact ⟨_, s1, s2, _, a1, b1, hO, a2, a3, b2, b3⟩
theorem bo_tour {d : Dt} {σ : Sg} {x y z : Int} (hO : OkD d) (hI : InvC σ d) (hM : InvM σ d) (hx : InR x) (hy : InR y) (hz : InR z) : ∃ (r : Int) (s1 s2 : Sg) (d' : Dt), Cal 70 [vR 0, vI x, vI y, vI z] σ = some (vI r, s1) ∧ Cal 127 [vR 40, vI x, vI y, vI z] s1 = some (vI r, s2) ∧ OkD d' ∧ InvC s1 d' ∧ FrC σ s1 ∧ InvM s2 d' ∧ FrM s1 s2 := by
  obtain ⟨s1, a1, a2, a3⟩ := c_tour hO hI hx hy hz
  obtain ⟨s2, b1, b2, b3⟩ := m_tour hO (hM.fc a3) hx hy hz
  exact ⟨_, s1, s2, _, a1, b1, hO, a2, a3, b2, b3⟩
theorem bo_keep {d : Dt} {σ : Sg} (hO : OkD d) (hI : InvC σ d) (hM : InvM σ d)  : ∃ (r : Int) (s1 s2 : Sg) (d' : Dt), Cal 71 [vR 0] σ = some (vI r, s1) ∧ Cal 128 [vR 40] s1 = some (vI r, s2) ∧ OkD d' ∧ InvC s1 d' ∧ FrC σ s1 ∧ InvM s2 d' ∧ FrM s1 s2 := by
  obtain ⟨s1, a1, a2, a3⟩ := cc_keep hO hI
  obtain ⟨s2, b1, b2, b3⟩ := mm_keep hO (hM.fc a3)
  exact ⟨_, s1, s2, _, a1, b1, okk_keep hO, a2, a3, b2, b3⟩
theorem bo_back {d : Dt} {σ : Sg} (hO : OkD d) (hI : InvC σ d) (hM : InvM σ d)  : ∃ (r : Int) (s1 s2 : Sg) (d' : Dt), Cal 72 [vR 0] σ = some (vI r, s1) ∧ Cal 129 [vR 40] s1 = some (vI r, s2) ∧ OkD d' ∧ InvC s1 d' ∧ FrC σ s1 ∧ InvM s2 d' ∧ FrM s1 s2 := by
  obtain ⟨s1, a1, a2, a3⟩ := cc_back hO hI
  obtain ⟨s2, b1, b2, b3⟩ := mm_back hO (hM.fc a3)
  exact ⟨_, s1, s2, _, a1, b1, okk_back hO, a2, a3, b2, b3⟩
theorem bo_count {d : Dt} {σ : Sg} {x : Int} (hO : OkD d) (hI : InvC σ d) (hM : InvM σ d) (hx : InR x) : ∃ (r : Int) (s1 s2 : Sg) (d' : Dt), Cal 73 [vR 0, vI x] σ = some (vI r, s1) ∧ Cal 130 [vR 40, vI x] s1 = some (vI r, s2) ∧ OkD d' ∧ InvC s1 d' ∧ FrC σ s1 ∧ InvM s2 d' ∧ FrM s1 s2 := by
  have a1 := c_count hO hI hx
  have b1 := m_count hO hM hx
  exact ⟨_, σ, σ, d, a1, b1, hO, hI, FrC.rf σ, hM, FrM.rf σ⟩
theorem law_loop {n : Nat} (hn : n < 2147483648) : ∀ (r p : Nat) (σ : Sg) (d : Dt), n ≤ p + r → p ≤ n → σ 98 0 = (n : Int) → (∀ j, j < n → InR (σ 99 j)) → JJ σ d → ∃ σ', Run 131 18 [vR 99, vR 0, vR 40, vI p] [] σ = some (vI 1, σ') := by
  intro r
  have fin0 : ∀ (p : Nat) (σ : Sg), p ≤ n → σ 98 0 = (n : Int) → (n : Int) - 4 < (p : Int) → ∃ σ', Run 131 18 [vR 99, vR 0, vR 40, vI p] [] σ = some (vI 1, σ') := fun p σ hp h98 hh => by
    refine ⟨σ, ?_⟩
    rw [q131_18, h98, wr_id (x := (n : Int) - 4) (by omega) (by omega), wr_id (x := (p : Int)) (by omega) (by omega), if_pos hh, if_pos (Or.inr rfl)]
  induction r with
  | zero => exact fun p σ d h hp h98 h99 hJ => fin0 p σ hp h98 (by omega)
  | succ r ih =>
    intro p σ d h hp h98 h99 hJ
    by_cases hh : (n : Int) - 4 < (p : Int)
    · exact fin0 p σ hp h98 hh
    obtain ⟨hO, hI, hM⟩ := hJ
    have fin : ∀ (s1 s2 : Sg) (d' : Dt), OkD d' → InvC s1 d' → FrC σ s1 → InvM s2 d' → FrM s1 s2 → ∃ σ', Run 131 18 [vR 99, vR 0, vR 40, vI ((p : Int) + 4)] [] s2 = some (vI 1, σ') := fun s1 s2 d' g1 g2 g3 g4 g5 =>
      ih (p + 4) s2 d' (by omega) (by omega) (by rw [g5 98 (by decide), g3 98 (by decide)]; exact h98) (fun j hj => by rw [g5 99 (by decide), g3 99 (by decide)]; exact h99 j hj) ⟨g1, g2.kept (fun q hq => g5 q (Or.inl hq)), g4⟩
    have e1 : wr ((p : Int) + 1) = ((p + 1 : Nat) : Int) := wr_id (by omega) (by omega)
    have e2 : wr ((p : Int) + 2) = ((p + 2 : Nat) : Int) := wr_id (by omega) (by omega)
    have e3 : wr ((p : Int) + 3) = ((p + 3 : Nat) : Int) := wr_id (by omega) (by omega)
    have b1 : 0 ≤ ((p + 1 : Nat) : Int) ∧ ((p + 1 : Nat) : Int) < (n : Int) := by omega
    have b2 : 0 ≤ ((p + 2 : Nat) : Int) ∧ ((p + 2 : Nat) : Int) < (n : Int) := by omega
    have b3 : 0 ≤ ((p + 3 : Nat) : Int) ∧ ((p + 3 : Nat) : Int) < (n : Int) := by omega
    have e0 := q131_18 (p : Int) σ
    simp only [e1, e2, e3, toN] at e0
    rw [h98, wr_id (x := (n : Int) - 4) (by omega) (by omega), wr_id (x := (p : Int)) (by omega) (by omega), if_neg hh, if_pos (show 0 ≤ (p : Int) ∧ (p : Int) < (n : Int) by omega), toN] at e0
    generalize wr (ban (σ 99 p) 31) = v at e0
    have hx := h99 (p + 1) (by omega)
    have hy := h99 (p + 2) (by omega)
    have hz := h99 (p + 3) (by omega)
    by_cases c0 : v = 0
    · obtain ⟨r, s1, s2, d', a1, a2, g1, g2, g3, g4, g5⟩ := bo_write hO hI hM hx
      rw [if_pos c0, if_pos b1, a1, kcI_s, g3 98 (by decide), g3 99 (by decide), h98, if_pos b1, a2, kcI_s, if_pos rfl] at e0
      obtain ⟨σ', t⟩ := fin s1 s2 d' g1 g2 g3 g4 g5
      exact ⟨σ', e0.trans t⟩
    rw [if_neg c0] at e0
    by_cases c1 : v = 1
    · obtain ⟨r, s1, s2, d', a1, a2, g1, g2, g3, g4, g5⟩ := bo_wipe hO hI hM
      rw [if_pos c1, a1, kcI_s, a2, kcI_s, if_pos rfl] at e0
      obtain ⟨σ', t⟩ := fin s1 s2 d' g1 g2 g3 g4 g5
      exact ⟨σ', e0.trans t⟩
    rw [if_neg c1] at e0
    by_cases c2 : v = 2
    · obtain ⟨r, s1, s2, d', a1, a2, g1, g2, g3, g4, g5⟩ := bo_fault hO hI hM
      rw [if_pos c2, a1, kcI_s, a2, kcI_s, if_pos rfl] at e0
      obtain ⟨σ', t⟩ := fin s1 s2 d' g1 g2 g3 g4 g5
      exact ⟨σ', e0.trans t⟩
    rw [if_neg c2] at e0
    by_cases c3 : v = 3
    · obtain ⟨r, s1, s2, d', a1, a2, g1, g2, g3, g4, g5⟩ := bo_lay hO hI hM
      rw [if_pos c3, a1, kcI_s, a2, kcI_s, if_pos rfl] at e0
      obtain ⟨σ', t⟩ := fin s1 s2 d' g1 g2 g3 g4 g5
      exact ⟨σ', e0.trans t⟩
    rw [if_neg c3] at e0
    by_cases c4 : v = 4
    · obtain ⟨r, s1, s2, d', a1, a2, g1, g2, g3, g4, g5⟩ := bo_instr hO hI hM hx hy
      rw [if_pos c4, if_pos b1, if_pos b2, a1, kcI_s, g3 98 (by decide), g3 99 (by decide), h98, if_pos b1, if_pos b2, a2, kcI_s, if_pos rfl] at e0
      obtain ⟨σ', t⟩ := fin s1 s2 d' g1 g2 g3 g4 g5
      exact ⟨σ', e0.trans t⟩
    rw [if_neg c4] at e0
    by_cases c5 : v = 5
    · obtain ⟨r, s1, s2, d', a1, a2, g1, g2, g3, g4, g5⟩ := bo_seat hO hI hM hx
      rw [if_pos c5, if_pos b1, a1, kcI_s, g3 98 (by decide), g3 99 (by decide), h98, if_pos b1, a2, kcI_s, if_pos rfl] at e0
      obtain ⟨σ', t⟩ := fin s1 s2 d' g1 g2 g3 g4 g5
      exact ⟨σ', e0.trans t⟩
    rw [if_neg c5] at e0
    by_cases c6 : v = 6
    · obtain ⟨r, s1, s2, d', a1, a2, g1, g2, g3, g4, g5⟩ := bo_asked hO hI hM hx
      rw [if_pos c6, if_pos b1, a1, kcI_s, g3 98 (by decide), g3 99 (by decide), h98, if_pos b1, a2, kcI_s, if_pos rfl] at e0
      obtain ⟨σ', t⟩ := fin s1 s2 d' g1 g2 g3 g4 g5
      exact ⟨σ', e0.trans t⟩
    rw [if_neg c6] at e0
    by_cases c7 : v = 7
    · obtain ⟨r, s1, s2, d', a1, a2, g1, g2, g3, g4, g5⟩ := bo_plays hO hI hM hx
      rw [if_pos c7, if_pos b1, a1, kcI_s, g3 98 (by decide), g3 99 (by decide), h98, if_pos b1, a2, kcI_s, if_pos rfl] at e0
      obtain ⟨σ', t⟩ := fin s1 s2 d' g1 g2 g3 g4 g5
      exact ⟨σ', e0.trans t⟩
    rw [if_neg c7] at e0
    by_cases c8 : v = 8
    · obtain ⟨r, s1, s2, d', a1, a2, g1, g2, g3, g4, g5⟩ := bo_missing hO hI hM hx
      rw [if_pos c8, if_pos b1, a1, kcI_s, g3 98 (by decide), g3 99 (by decide), h98, if_pos b1, a2, kcI_s, if_pos rfl] at e0
      obtain ⟨σ', t⟩ := fin s1 s2 d' g1 g2 g3 g4 g5
      exact ⟨σ', e0.trans t⟩
    rw [if_neg c8] at e0
    by_cases c9 : v = 9
    · obtain ⟨r, s1, s2, d', a1, a2, g1, g2, g3, g4, g5⟩ := bo_first hO hI hM
      rw [if_pos c9, a1, kcI_s, a2, kcI_s, if_pos rfl] at e0
      obtain ⟨σ', t⟩ := fin s1 s2 d' g1 g2 g3 g4 g5
      exact ⟨σ', e0.trans t⟩
    rw [if_neg c9] at e0
    by_cases c10 : v = 10
    · obtain ⟨r, s1, s2, d', a1, a2, g1, g2, g3, g4, g5⟩ := bo_notes hO hI hM hx
      rw [if_pos c10, if_pos b1, a1, kcI_s, g3 98 (by decide), g3 99 (by decide), h98, if_pos b1, a2, kcI_s, if_pos rfl] at e0
      obtain ⟨σ', t⟩ := fin s1 s2 d' g1 g2 g3 g4 g5
      exact ⟨σ', e0.trans t⟩
    rw [if_neg c10] at e0
    by_cases c11 : v = 11
    · obtain ⟨r, s1, s2, d', a1, a2, g1, g2, g3, g4, g5⟩ := bo_change hO hI hM hx hy
      rw [if_pos c11, if_pos b1, if_pos b2, a1, kcI_s, g3 98 (by decide), g3 99 (by decide), h98, if_pos b1, if_pos b2, a2, kcI_s, if_pos rfl] at e0
      obtain ⟨σ', t⟩ := fin s1 s2 d' g1 g2 g3 g4 g5
      exact ⟨σ', e0.trans t⟩
    rw [if_neg c11] at e0
    by_cases c12 : v = 12
    · obtain ⟨r, s1, s2, d', a1, a2, g1, g2, g3, g4, g5⟩ := bo_bribe hO hI hM hx
      rw [if_pos c12, if_pos b1, a1, kcI_s, g3 98 (by decide), g3 99 (by decide), h98, if_pos b1, a2, kcI_s, if_pos rfl] at e0
      obtain ⟨σ', t⟩ := fin s1 s2 d' g1 g2 g3 g4 g5
      exact ⟨σ', e0.trans t⟩
    rw [if_neg c12] at e0
    by_cases c13 : v = 13
    · obtain ⟨r, s1, s2, d', a1, a2, g1, g2, g3, g4, g5⟩ := bo_undo hO hI hM
      rw [if_pos c13, a1, kcI_s, a2, kcI_s, if_pos rfl] at e0
      obtain ⟨σ', t⟩ := fin s1 s2 d' g1 g2 g3 g4 g5
      exact ⟨σ', e0.trans t⟩
    rw [if_neg c13] at e0
    by_cases c14 : v = 14
    · obtain ⟨r, s1, s2, d', a1, a2, g1, g2, g3, g4, g5⟩ := bo_best hO hI hM hx
      rw [if_pos c14, if_pos b1, a1, kcI_s, g3 98 (by decide), g3 99 (by decide), h98, if_pos b1, a2, kcI_s, if_pos rfl] at e0
      obtain ⟨σ', t⟩ := fin s1 s2 d' g1 g2 g3 g4 g5
      exact ⟨σ', e0.trans t⟩
    rw [if_neg c14] at e0
    by_cases c15 : v = 15
    · obtain ⟨r, s1, s2, d', a1, a2, g1, g2, g3, g4, g5⟩ := bo_changes hO hI hM
      rw [if_pos c15, a1, kcI_s, a2, kcI_s, if_pos rfl] at e0
      obtain ⟨σ', t⟩ := fin s1 s2 d' g1 g2 g3 g4 g5
      exact ⟨σ', e0.trans t⟩
    rw [if_neg c15] at e0
    by_cases c16 : v = 16
    · obtain ⟨r, s1, s2, d', a1, a2, g1, g2, g3, g4, g5⟩ := bo_help hO hI hM hx
      rw [if_pos c16, if_pos b1, a1, kcI_s, g3 98 (by decide), g3 99 (by decide), h98, if_pos b1, a2, kcI_s, if_pos rfl] at e0
      obtain ⟨σ', t⟩ := fin s1 s2 d' g1 g2 g3 g4 g5
      exact ⟨σ', e0.trans t⟩
    rw [if_neg c16] at e0
    by_cases c17 : v = 17
    · obtain ⟨r, s1, s2, d', a1, a2, g1, g2, g3, g4, g5⟩ := bo_bribes hO hI hM hx
      rw [if_pos c17, if_pos b1, a1, kcI_s, g3 98 (by decide), g3 99 (by decide), h98, if_pos b1, a2, kcI_s, if_pos rfl] at e0
      obtain ⟨σ', t⟩ := fin s1 s2 d' g1 g2 g3 g4 g5
      exact ⟨σ', e0.trans t⟩
    rw [if_neg c17] at e0
    by_cases c18 : v = 18
    · obtain ⟨r, s1, s2, d', a1, a2, g1, g2, g3, g4, g5⟩ := bo_rests hO hI hM
      rw [if_pos c18, a1, kcI_s, a2, kcI_s, if_pos rfl] at e0
      obtain ⟨σ', t⟩ := fin s1 s2 d' g1 g2 g3 g4 g5
      exact ⟨σ', e0.trans t⟩
    rw [if_neg c18] at e0
    by_cases c19 : v = 19
    · obtain ⟨r, s1, s2, d', a1, a2, g1, g2, g3, g4, g5⟩ := bo_silence hO hI hM hx
      rw [if_pos c19, if_pos b1, a1, kcI_s, g3 98 (by decide), g3 99 (by decide), h98, if_pos b1, a2, kcI_s, if_pos rfl] at e0
      obtain ⟨σ', t⟩ := fin s1 s2 d' g1 g2 g3 g4 g5
      exact ⟨σ', e0.trans t⟩
    rw [if_neg c19] at e0
    by_cases c20 : v = 20
    · obtain ⟨r, s1, s2, d', a1, a2, g1, g2, g3, g4, g5⟩ := bo_alike hO hI hM
      rw [if_pos c20, a1, kcI_s, a2, kcI_s, if_pos rfl] at e0
      obtain ⟨σ', t⟩ := fin s1 s2 d' g1 g2 g3 g4 g5
      exact ⟨σ', e0.trans t⟩
    rw [if_neg c20] at e0
    by_cases c21 : v = 21
    · obtain ⟨r, s1, s2, d', a1, a2, g1, g2, g3, g4, g5⟩ := bo_odds hO hI hM hx
      rw [if_pos c21, if_pos b1, a1, kcI_s, g3 98 (by decide), g3 99 (by decide), h98, if_pos b1, a2, kcI_s, if_pos rfl] at e0
      obtain ⟨σ', t⟩ := fin s1 s2 d' g1 g2 g3 g4 g5
      exact ⟨σ', e0.trans t⟩
    rw [if_neg c21] at e0
    by_cases c22 : v = 22
    · obtain ⟨r, s1, s2, d', a1, a2, g1, g2, g3, g4, g5⟩ := bo_atLeast hO hI hM hx hy
      rw [if_pos c22, if_pos b1, if_pos b2, a1, kcI_s, g3 98 (by decide), g3 99 (by decide), h98, if_pos b1, if_pos b2, a2, kcI_s, if_pos rfl] at e0
      obtain ⟨σ', t⟩ := fin s1 s2 d' g1 g2 g3 g4 g5
      exact ⟨σ', e0.trans t⟩
    rw [if_neg c22] at e0
    by_cases c23 : v = 23
    · obtain ⟨r, s1, s2, d', a1, a2, g1, g2, g3, g4, g5⟩ := bo_heard hO hI hM hx hy hz
      rw [if_pos c23, if_pos b1, if_pos b2, if_pos b3, a1, kcI_s, g3 98 (by decide), g3 99 (by decide), h98, if_pos b1, if_pos b2, if_pos b3, a2, kcI_s, if_pos rfl] at e0
      obtain ⟨σ', t⟩ := fin s1 s2 d' g1 g2 g3 g4 g5
      exact ⟨σ', e0.trans t⟩
    rw [if_neg c23] at e0
    by_cases c24 : v = 24
    · obtain ⟨r, s1, s2, d', a1, a2, g1, g2, g3, g4, g5⟩ := bo_forget hO hI hM
      rw [if_pos c24, a1, kcI_s, a2, kcI_s, if_pos rfl] at e0
      obtain ⟨σ', t⟩ := fin s1 s2 d' g1 g2 g3 g4 g5
      exact ⟨σ', e0.trans t⟩
    rw [if_neg c24] at e0
    by_cases c25 : v = 25
    · obtain ⟨r, s1, s2, d', a1, a2, g1, g2, g3, g4, g5⟩ := bo_kinds hO hI hM hx
      rw [if_pos c25, if_pos b1, a1, kcI_s, g3 98 (by decide), g3 99 (by decide), h98, if_pos b1, a2, kcI_s, if_pos rfl] at e0
      obtain ⟨σ', t⟩ := fin s1 s2 d' g1 g2 g3 g4 g5
      exact ⟨σ', e0.trans t⟩
    rw [if_neg c25] at e0
    by_cases c26 : v = 26
    · obtain ⟨r, s1, s2, d', a1, a2, g1, g2, g3, g4, g5⟩ := bo_hall hO hI hM hx
      rw [if_pos c26, if_pos b1, a1, kcI_s, g3 98 (by decide), g3 99 (by decide), h98, if_pos b1, a2, kcI_s, if_pos rfl] at e0
      obtain ⟨σ', t⟩ := fin s1 s2 d' g1 g2 g3 g4 g5
      exact ⟨σ', e0.trans t⟩
    rw [if_neg c26] at e0
    by_cases c27 : v = 27
    · obtain ⟨r, s1, s2, d', a1, a2, g1, g2, g3, g4, g5⟩ := bo_tour hO hI hM hx hy hz
      rw [if_pos c27, if_pos b1, if_pos b2, if_pos b3, a1, kcI_s, g3 98 (by decide), g3 99 (by decide), h98, if_pos b1, if_pos b2, if_pos b3, a2, kcI_s, if_pos rfl] at e0
      obtain ⟨σ', t⟩ := fin s1 s2 d' g1 g2 g3 g4 g5
      exact ⟨σ', e0.trans t⟩
    rw [if_neg c27] at e0
    by_cases c28 : v = 28
    · obtain ⟨r, s1, s2, d', a1, a2, g1, g2, g3, g4, g5⟩ := bo_keep hO hI hM
      rw [if_pos c28, a1, kcI_s, a2, kcI_s, if_pos rfl] at e0
      obtain ⟨σ', t⟩ := fin s1 s2 d' g1 g2 g3 g4 g5
      exact ⟨σ', e0.trans t⟩
    rw [if_neg c28] at e0
    by_cases c29 : v = 29
    · obtain ⟨r, s1, s2, d', a1, a2, g1, g2, g3, g4, g5⟩ := bo_back hO hI hM
      rw [if_pos c29, a1, kcI_s, a2, kcI_s, if_pos rfl] at e0
      obtain ⟨σ', t⟩ := fin s1 s2 d' g1 g2 g3 g4 g5
      exact ⟨σ', e0.trans t⟩
    rw [if_neg c29] at e0
    by_cases c30 : v = 30
    · obtain ⟨r, s1, s2, d', a1, a2, g1, g2, g3, g4, g5⟩ := bo_count hO hI hM hx
      rw [if_pos c30, if_pos b1, a1, kcI_s, g3 98 (by decide), g3 99 (by decide), h98, if_pos b1, a2, kcI_s, if_pos rfl] at e0
      obtain ⟨σ', t⟩ := fin s1 s2 d' g1 g2 g3 g4 g5
      exact ⟨σ', e0.trans t⟩
    rw [if_neg c30] at e0
    obtain ⟨σ', t⟩ := fin σ σ d hO hI (FrC.rf σ) hM (FrM.rf σ)
    exact ⟨σ', e0.trans t⟩
