/-! bribes, in the class -/
def wB (d : Dt) (s : Nat) : Bool := whX d (d 5) (dg d) s 0 == dB d
def pB (d : Dt) (s : Nat) : Nat := prS d s (dn d)
def bbest (d : Dt) : Nat → Int
  | 0 => -4
  | k + 1 => if bbest d k = -4 ∨ pB d k < pB d (bbest d k).toNat then (if wB d k = true then (k : Int) else bbest d k) else bbest d k
theorem bbest_in (d : Dt) : ∀ k, bbest d k = -4 ∨ (0 ≤ bbest d k ∧ bbest d k < k)
  | 0 => Or.inl rfl
  | k + 1 => by
    have ih := bbest_in d k
    unfold bbest
    split
    · split
      · right; omega
      · omega
    · omega
theorem prS_le {d : Dt} (hO : OkD d) (s : Nat) : ∀ k, k ≤ dn d → prS d s k ≤ 30 * k
  | 0, _ => Nat.le_refl _
  | k + 1, h => by
    have ih := prS_le hO s k (by omega)
    have := (hO.2.1 k (by omega)).2.2
    unfold prS
    split <;> omega
theorem pB_le {d : Dt} (hO : OkD d) (s : Nat) : pB d s ≤ 210 := by
  have := prS_le hO s (dn d) (Nat.le_refl _)
  have := hO.1.2.1
  unfold pB
  omega
def r_bribes (d : Dt) (x : Int) : Int := if 0 ≤ x ∧ x ≤ 1 then (if bbest d (2 ^ dn d) = -4 then -4 else if x = 0 then bbest d (2 ^ dn d) else ((pB d (bbest d (2 ^ dn d)).toNat : Nat) : Int)) else -1
theorem c_bribes_loop {d : Dt} {x : Int} (hO : OkD d) (hx : InR x) : ∀ (r k : Nat) (σ : Sg), k + r = 2 ^ dn d → InvC σ d → ∃ σ', Run 57 16 [vR 0, vI x, vI (bbest d k), vI k] [] σ = some (vI (if bbest d (2 ^ dn d) = -4 then -4 else if x = 0 then bbest d (2 ^ dn d) else ((pB d (bbest d (2 ^ dn d)).toNat : Nat) : Int)), σ') ∧ InvC σ' d ∧ FrC σ σ'
  | 0, k, σ, h, hI => by
    have hn := hO.1.2.1
    have hp7 := p2_7 hn
    have hk : k = 2 ^ dn d := by omega
    have w4 : wr (-4) = -4 := by decide
    have bi := bbest_in d k
    refine ⟨σ, ?_, hI, FrC.rf σ⟩
    rw [q57_16, hI.1.1.1, bsl1_n _ (by omega), if_neg (by rw [wr_id (by omega) (by omega), wr_id (by omega) (by omega)]; omega), w4, wr_id (x := bbest d k) (by omega) (by omega), wr_in hx, ← hk]
    by_cases c : bbest d k = -4
    · rw [if_pos c, if_pos c, c]
    · rw [if_neg c, if_neg c]
      by_cases c0 : x = 0
      · rw [if_pos c0, if_pos c0]
      · have pr := c_price (s := (bbest d k).toNat) hO hI.1 (by omega)
        rw [show (((bbest d k).toNat : Nat) : Int) = bbest d k by omega] at pr
        rw [if_neg c0, if_neg c0, pr, kcI_s]
        rfl
  | r + 1, k, σ, h, hI => by
    have hn := hO.1.2.1
    have hp7 := p2_7 hn
    have hg := hO.1.2.2.2.1
    have hB8 := hO.1.2.2.1
    have hk : k < 2 ^ dn d := by omega
    have w4 : wr (-4) = -4 := by decide
    have bi := bbest_in d k
    obtain ⟨s1, r1, r2, r3, r4⟩ := c_even0 (g := dg d) hO hI.1 (Or.inl rfl) (by omega) hk hO.2.2.2.1 hI.2.1.1
    have hI1 : InvC s1 d := hI.kx (fun q _ hq => r2 q (by omega) (by omega) (by omega))
    have lw := whX_le d (d 5) (dg d) k 0
    have e1 := q57_51 x (bbest d k) (k : Int) σ
    rw [hI.1.2.2, r1, kcV_s, r4, hI1.1.1.2.2.1, wr_id (x := ((whX d (d 5) (dg d) k 0 : Nat) : Int)) (by omega) (by omega), wr_id (x := (dB d : Int)) (by omega) (by omega)] at e1
    have tr : bbest d k = -4 ∨ pB d k < pB d (bbest d k).toNat → ∃ σ', Run 57 51 [vR 0, vI x, vI (bbest d k), vI k] [] σ = some (vI (if bbest d (2 ^ dn d) = -4 then -4 else if x = 0 then bbest d (2 ^ dn d) else ((pB d (bbest d (2 ^ dn d)).toNat : Nat) : Int)), σ') ∧ InvC σ' d ∧ FrC σ σ' := fun hc => by
      obtain ⟨σ', t1, t2, t3⟩ := c_bribes_loop hO hx r (k + 1) s1 (by omega) hI1
      refine ⟨σ', e1.trans (Eq.trans ?_ t1), t2, fun q hq => by rw [t3 q hq, r2 q (by omega) (by omega) (by omega)]⟩
      by_cases cw : whX d (d 5) (dg d) k 0 = dB d
      · have e2 : bbest d (k + 1) = (k : Int) := by
          show (if _ then _ else _) = _
          rw [if_pos hc, if_pos (by unfold wB; rw [cw, beq_self_eq_true])]
        rw [if_pos (by omega), e2]
        rfl
      · have e2 : bbest d (k + 1) = bbest d k := by
          show (if _ then _ else _) = _
          rw [if_pos hc, if_neg (by unfold wB; simpa using cw)]
        rw [if_neg (by omega), e2]
        rfl
    have e0 := q57_16 x (bbest d k) (k : Int) σ
    rw [hI.1.1.1, bsl1_n _ (by omega), wr_id (x := (k : Int)) (by omega) (by omega), wr_id (x := ((2 ^ dn d : Nat) : Int)) (by omega) (by omega), if_pos (show (k : Int) < ((2 ^ dn d : Nat) : Int) by omega), w4, wr_id (x := bbest d k) (by omega) (by omega)] at e0
    by_cases c : bbest d k = -4
    · obtain ⟨σ', t1, t2, t3⟩ := tr (Or.inl c)
      rw [if_pos c] at e0
      exact ⟨σ', e0.trans t1, t2, t3⟩
    · have pr := c_price (s := (bbest d k).toNat) hO hI.1 (by omega)
      rw [show (((bbest d k).toNat : Nat) : Int) = bbest d k by omega] at pr
      have p1 := pB_le hO k
      have p2 := pB_le hO (bbest d k).toNat
      unfold pB at p1 p2
      rw [if_neg c, c_price (s := k) hO hI.1 (by omega), kcI_s, pr, kcI_s, wr_id (x := ((prS d k (dn d) : Nat) : Int)) (by omega) (by omega), wr_id (x := ((prS d (bbest d k).toNat (dn d) : Nat) : Int)) (by omega) (by omega)] at e0
      by_cases cp : pB d k < pB d (bbest d k).toNat
      · obtain ⟨σ', t1, t2, t3⟩ := tr (Or.inr cp)
        unfold pB at cp
        rw [if_pos (by omega)] at e0
        exact ⟨σ', e0.trans t1, t2, t3⟩
      · obtain ⟨σ', t1, t2, t3⟩ := c_bribes_loop hO hx r (k + 1) σ (by omega) hI
        have e2 : bbest d (k + 1) = bbest d k := by
          show (if _ then _ else _) = _
          rw [if_neg (by omega)]
        unfold pB at cp
        rw [if_neg (by omega)] at e0
        rw [e2] at t1
        exact ⟨σ', e0.trans t1, t2, t3⟩
theorem c_bribes {d : Dt} {σ : Sg} {x : Int} (hO : OkD d) (hI : InvC σ d) (hx : InR x) : ∃ σ', Cal 57 [vR 0, vI x] σ = some (vI (r_bribes d x), σ') ∧ InvC σ' d ∧ FrC σ σ' := by
  have e0 : Cal 57 [vR 0, vI x] σ = _ := q57_0 x σ
  unfold r_bribes
  rw [wr_in hx, wr_1] at e0
  by_cases c : 0 ≤ x ∧ x ≤ 1
  · rw [if_neg (show ¬ x < 0 by omega), if_neg (show ¬ 1 < x by omega)] at e0
    rw [if_pos c]
    obtain ⟨σ', t1, t2, t3⟩ := c_bribes_loop hO hx (2 ^ dn d) 0 σ (by omega) hI
    exact ⟨σ', e0.trans t1, t2, t3⟩
  · rw [if_neg c]
    refine ⟨σ, e0.trans ?_, hI, FrC.rf σ⟩
    by_cases c0 : x < 0
    · rw [if_pos c0]
    · rw [if_neg c0, if_pos (by omega)]
/-- b is the first of the cheapest bribes among those between lo and hi by which all is played -/
def Bst (d : Dt) (lo hi b : Nat) : Prop := wB d b = true ∧ ∀ s, lo ≤ s → s < hi → wB d s = true → pB d b ≤ pB d s ∧ (s < b → pB d b < pB d s)
theorem bst_one {d : Dt} {hi b c : Nat} (hb : Bst d 0 hi b) (hc : Bst d 0 hi c) (b1 : b < hi) (c1 : c < hi) : b = c := by
  have h1 := hb.2 c (Nat.zero_le _) c1 hc.1
  have h2 := hc.2 b (Nat.zero_le _) b1 hb.1
  by_cases e : b < c
  · have := h2.2 e; omega
  · by_cases e2 : c < b
    · have := h1.2 e2; omega
    · omega
theorem bbest_bst {d : Dt} : ∀ k, (bbest d k = -4 ∧ ∀ s, s < k → wB d s = false) ∨ ∃ b, bbest d k = ((b : Nat) : Int) ∧ b < k ∧ Bst d 0 k b
  | 0 => Or.inl ⟨rfl, fun s hs => by omega⟩
  | k + 1 => by
    by_cases cw : wB d k = true
    · rcases bbest_bst (d := d) k with ⟨h1, h2⟩ | ⟨b, h1, h2, h3, h4⟩
      · right
        refine ⟨k, ?_, by omega, cw, fun s _ hs hw => ?_⟩
        · show (if _ then _ else _) = _
          rw [if_pos (Or.inl h1), if_pos cw]
        · have : s = k := by
            by_cases e : s < k
            · rw [h2 s e] at hw; cases hw
            · omega
          subst this
          exact ⟨Nat.le_refl _, fun z => by omega⟩
      · right
        by_cases cp : pB d k < pB d b
        · refine ⟨k, ?_, by omega, cw, fun s h0 hs hw => ?_⟩
          · show (if _ then _ else _) = _
            rw [h1, Int.toNat_natCast, if_pos (Or.inr cp), if_pos cw]
          · by_cases e : s < k
            · have := (h4 s h0 e hw).1; exact ⟨by omega, fun _ => by omega⟩
            · have : s = k := by omega
              subst this
              exact ⟨Nat.le_refl _, fun z => by omega⟩
        · refine ⟨b, ?_, by omega, h3, fun s h0 hs hw => ?_⟩
          · show (if _ then _ else _) = _
            rw [h1, Int.toNat_natCast, if_neg (by omega)]
          · by_cases e : s < k
            · exact h4 s h0 e hw
            · have : s = k := by omega
              subst this
              exact ⟨by omega, fun z => by omega⟩
    · have e : bbest d (k + 1) = bbest d k := by
        show (if _ then (if wB d k = true then (k : Int) else bbest d k) else bbest d k) = bbest d k
        rw [if_neg cw]
        split <;> rfl
      have cw' : wB d k = false := by simpa using cw
      rw [e]
      rcases bbest_bst (d := d) k with ⟨h1, h2⟩ | ⟨b, h1, h2, h3, h4⟩
      · refine Or.inl ⟨h1, fun s hs => ?_⟩
        by_cases e2 : s < k
        · exact h2 s e2
        · rw [show s = k by omega]; exact cw'
      · refine Or.inr ⟨b, h1, by omega, h3, fun s h0 hs hw => ?_⟩
        by_cases e2 : s < k
        · exact h4 s h0 e2 hw
        · rw [show s = k by omega, cw'] at hw; cases hw
