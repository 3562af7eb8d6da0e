/-! change, bribe, undo, keep, back for any arguments: r_ answers, d_ stores -/
def r_change (d : Dt) (x y : Int) : Int := if (0 ≤ x ∧ x < (dn d : Int)) ∧ (0 ≤ y ∧ y < (dn d : Int)) ∧ x ≠ y then ((d 5 y.toNat : Nat) : Int) else -1
def d_change (d : Dt) (x y : Int) : Dt := if (0 ≤ x ∧ x < (dn d : Int)) ∧ (0 ≤ y ∧ y < (dn d : Int)) ∧ x ≠ y then d_change1 d x.toNat y.toNat else d
theorem cc_change {d : Dt} {σ : Sg} {x y : Int} (hO : OkD d) (hI : InvC σ d) (hx : InR x) (hy : InR y) : ∃ σ', Cal 49 [vR 0, vI x, vI y] σ = some (vI (r_change d x y), σ') ∧ InvC σ' (d_change d x y) ∧ FrC σ σ' := by
  have e0 : Cal 49 [vR 0, vI x, vI y] σ = _ := q49_0 x y σ
  unfold r_change d_change
  by_cases c : (0 ≤ x ∧ x < (dn d : Int)) ∧ (0 ≤ y ∧ y < (dn d : Int)) ∧ x ≠ y
  · rw [if_pos c, if_pos c]
    have k := c_change (a := x.toNat) (b := y.toNat) hO hI (by omega) (by omega) (by omega)
    rw [show ((x.toNat : Nat) : Int) = x by omega, show ((y.toNat : Nat) : Int) = y by omega] at k
    exact k
  · rw [if_neg c, if_neg c]
    refine ⟨σ, ?_, hI, FrC.rf σ⟩
    rw [isI_c hI.1 hx, kcI_s] at e0
    by_cases c1 : 0 ≤ x ∧ x < (dn d : Int)
    · rw [if_pos c1, wr_1, if_neg (by decide), isI_c hI.1 hy, kcI_s] at e0
      by_cases c2 : 0 ≤ y ∧ y < (dn d : Int)
      · rw [if_pos c2, wr_1, if_neg (by decide), wr_in hx, wr_in hy, if_pos (show x = y by omega)] at e0
        exact e0
      · rw [if_neg c2, wr_0, if_pos rfl] at e0
        exact e0
    · rw [if_neg c1, wr_0, if_pos rfl] at e0
      exact e0
theorem mm_change {d : Dt} {σ : Sg} {x y : Int} (hO : OkD d) (hM : InvM σ d) (hx : InR x) (hy : InR y) : ∃ σ', Cal 105 [vR 40, vI x, vI y] σ = some (vI (r_change d x y), σ') ∧ InvM σ' (d_change d x y) ∧ FrM σ σ' := by
  have e0 : Cal 105 [vR 40, vI x, vI y] σ = _ := q105_0 x y σ
  unfold r_change d_change
  by_cases c : (0 ≤ x ∧ x < (dn d : Int)) ∧ (0 ≤ y ∧ y < (dn d : Int)) ∧ x ≠ y
  · rw [if_pos c, if_pos c]
    have k := m_change (a := x.toNat) (b := y.toNat) hO hM (by omega) (by omega) (by omega)
    rw [show ((x.toNat : Nat) : Int) = x by omega, show ((y.toNat : Nat) : Int) = y by omega] at k
    exact k
  · rw [if_neg c, if_neg c]
    refine ⟨σ, ?_, hM, FrM.rf σ⟩
    rw [isI_m hM hx, kcI_s] at e0
    by_cases c1 : 0 ≤ x ∧ x < (dn d : Int)
    · rw [if_pos c1, wr_1, if_neg (by decide), isI_m hM hy, kcI_s] at e0
      by_cases c2 : 0 ≤ y ∧ y < (dn d : Int)
      · rw [if_pos c2, wr_1, if_neg (by decide), wr_in hx, wr_in hy, if_pos (show x = y by omega)] at e0
        exact e0
      · rw [if_neg c2, wr_0, if_pos rfl] at e0
        exact e0
    · rw [if_neg c1, wr_0, if_pos rfl] at e0
      exact e0
theorem ok_change {d : Dt} {x y : Int} (hO : OkD d) : OkD (d_change d x y) := by
  unfold d_change
  by_cases c : (0 ≤ x ∧ x < (dn d : Int)) ∧ (0 ≤ y ∧ y < (dn d : Int)) ∧ x ≠ y
  · rw [if_pos c]
    exact ok_step hO (swF_perm hO.2.2.2.1 (by omega) (by omega)) hO.1.2.2.2.2.1
  · rw [if_neg c]; exact hO
def r_bribe (d : Dt) (x : Int) : Int := if 0 ≤ x ∧ x < (dn d : Int) then ((prS d (db d ^^^ 2 ^ x.toNat) (dn d) : Nat) : Int) else -1
def d_bribe (d : Dt) (x : Int) : Dt := if 0 ≤ x ∧ x < (dn d : Int) then d_bribe1 d x.toNat else d
theorem cc_bribe {d : Dt} {σ : Sg} {x : Int} (hO : OkD d) (hI : InvC σ d) (hx : InR x) : ∃ σ', Cal 51 [vR 0, vI x] σ = some (vI (r_bribe d x), σ') ∧ InvC σ' (d_bribe d x) ∧ FrC σ σ' := by
  have e0 : Cal 51 [vR 0, vI x] σ = _ := q51_0 x σ
  unfold r_bribe d_bribe
  by_cases c : 0 ≤ x ∧ x < (dn d : Int)
  · rw [if_pos c, if_pos c]
    have k := c_bribe (a := x.toNat) hO hI (by omega)
    rw [show ((x.toNat : Nat) : Int) = x by omega] at k
    exact k
  · rw [if_neg c, if_neg c]
    rw [isI_c hI.1 hx, kcI_s, if_neg c, wr_0, if_pos rfl] at e0
    exact ⟨σ, e0, hI, FrC.rf σ⟩
theorem mm_bribe {d : Dt} {σ : Sg} {x : Int} (hO : OkD d) (hM : InvM σ d) (hx : InR x) : ∃ σ', Cal 107 [vR 40, vI x] σ = some (vI (r_bribe d x), σ') ∧ InvM σ' (d_bribe d x) ∧ FrM σ σ' := by
  have e0 : Cal 107 [vR 40, vI x] σ = _ := q107_0 x σ
  unfold r_bribe d_bribe
  by_cases c : 0 ≤ x ∧ x < (dn d : Int)
  · rw [if_pos c, if_pos c]
    have k := m_bribe (a := x.toNat) hO hM (by omega)
    rw [show ((x.toNat : Nat) : Int) = x by omega] at k
    exact k
  · rw [if_neg c, if_neg c]
    rw [isI_m hM hx, kcI_s, if_neg c, wr_0, if_pos rfl] at e0
    exact ⟨σ, e0, hM, FrM.rf σ⟩
theorem ok_bribe {d : Dt} {x : Int} (hO : OkD d) : OkD (d_bribe d x) := by
  unfold d_bribe
  by_cases c : 0 ≤ x ∧ x < (dn d : Int)
  · rw [if_pos c]
    exact ok_step hO hO.2.2.2.1 (Nat.xor_lt_two_pow hO.1.2.2.2.2.1 (p2_lt (by omega)))
  · rw [if_neg c]; exact hO
def r_undo (d : Dt) : Int := if 0 < du d then ((du d - 1 : Nat) : Int) else -2
def d_undo (d : Dt) : Dt := if 0 < du d then d_undo1 d else d
theorem cc_undo {d : Dt} {σ : Sg} (hO : OkD d) (hI : InvC σ d) : ∃ σ', Cal 52 [vR 0] σ = some (vI (r_undo d), σ') ∧ InvC σ' (d_undo d) ∧ FrC σ σ' := by
  unfold r_undo d_undo
  by_cases c : 0 < du d
  · rw [if_pos c, if_pos c]; exact c_undo hO hI c
  · rw [if_neg c, if_neg c]; exact ⟨σ, c_undo0 hI (by omega), hI, FrC.rf σ⟩
theorem mm_undo {d : Dt} {σ : Sg} (hO : OkD d) (hM : InvM σ d) : ∃ σ', Cal 108 [vR 40] σ = some (vI (r_undo d), σ') ∧ InvM σ' (d_undo d) ∧ FrM σ σ' := by
  unfold r_undo d_undo
  by_cases c : 0 < du d
  · rw [if_pos c, if_pos c]; exact m_undo hO hM c
  · rw [if_neg c, if_neg c]; exact ⟨σ, m_undo0 hM (by omega), hM, FrM.rf σ⟩
theorem okk_undo {d : Dt} (hO : OkD d) : OkD (d_undo d) := by
  unfold d_undo
  by_cases c : 0 < du d
  · rw [if_pos c]; exact ok_undo hO c
  · rw [if_neg c]; exact hO
def r_keep (d : Dt) : Int := if dk d < 2 then ((dk d + 1 : Nat) : Int) else -3
def d_keep (d : Dt) : Dt := if dk d < 2 then d_keep1 d else d
theorem cc_keep {d : Dt} {σ : Sg} (hO : OkD d) (hI : InvC σ d) : ∃ σ', Cal 71 [vR 0] σ = some (vI (r_keep d), σ') ∧ InvC σ' (d_keep d) ∧ FrC σ σ' := by
  have h2 := hO.1.2.2.2.2.2.2.2.2
  unfold r_keep d_keep
  by_cases c : dk d < 2
  · rw [if_pos c, if_pos c]; exact c_keep hO hI c
  · rw [if_neg c, if_neg c]; exact ⟨σ, c_keep2 hI (by omega), hI, FrC.rf σ⟩
theorem mm_keep {d : Dt} {σ : Sg} (hO : OkD d) (hM : InvM σ d) : ∃ σ', Cal 128 [vR 40] σ = some (vI (r_keep d), σ') ∧ InvM σ' (d_keep d) ∧ FrM σ σ' := by
  have h2 := hO.1.2.2.2.2.2.2.2.2
  unfold r_keep d_keep
  by_cases c : dk d < 2
  · rw [if_pos c, if_pos c]; exact m_keep hO hM c
  · rw [if_neg c, if_neg c]; exact ⟨σ, m_keep2 hM (by omega), hM, FrM.rf σ⟩
theorem okk_keep {d : Dt} (hO : OkD d) : OkD (d_keep d) := by
  unfold d_keep
  by_cases c : dk d < 2
  · rw [if_pos c]; exact ok_keep hO c
  · rw [if_neg c]; exact hO
def r_back (d : Dt) : Int := if 0 < dk d then ((dk d - 1 : Nat) : Int) else -2
def d_back (d : Dt) : Dt := if 0 < dk d then d_back1 d else d
theorem cc_back {d : Dt} {σ : Sg} (hO : OkD d) (hI : InvC σ d) : ∃ σ', Cal 72 [vR 0] σ = some (vI (r_back d), σ') ∧ InvC σ' (d_back d) ∧ FrC σ σ' := by
  unfold r_back d_back
  by_cases c : 0 < dk d
  · rw [if_pos c, if_pos c]; exact c_back hO hI c
  · rw [if_neg c, if_neg c]; exact ⟨σ, c_back0 hI (by omega), hI, FrC.rf σ⟩
theorem mm_back {d : Dt} {σ : Sg} (hO : OkD d) (hM : InvM σ d) : ∃ σ', Cal 129 [vR 40] σ = some (vI (r_back d), σ') ∧ InvM σ' (d_back d) ∧ FrM σ σ' := by
  unfold r_back d_back
  by_cases c : 0 < dk d
  · rw [if_pos c, if_pos c]; exact m_back hO hM c
  · rw [if_neg c, if_neg c]; exact ⟨σ, m_back0 hM (by omega), hM, FrM.rf σ⟩
theorem okk_back {d : Dt} (hO : OkD d) : OkD (d_back d) := by
  unfold d_back
  by_cases c : 0 < dk d
  · rw [if_pos c]; exact ok_back hO c
  · rw [if_neg c]; exact hO
