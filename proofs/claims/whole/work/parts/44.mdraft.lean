/-! THE TEXT in the reference: letters, numbers, the draft -/
def TextM (σ : Sg) (d : Dt) : Prop := σ 40 1 = ((dL d : Nat) : Int) ∧ ∀ j, j < dL d → σ 41 j = ((d 6 j : Nat) : Int)
def lv (d : Dt) (j : Nat) : Int := if j < dL d then ((d 6 j : Nat) : Int) else -1
theorem lv_ltr {d : Dt} (hO : OkD d) (j : Nat) : -1 ≤ lv d j ∧ lv d j ≤ 126 ∧ (48 ≤ lv d j ∧ lv d j ≤ 57 ↔ 48 ≤ ltr d j ∧ ltr d j ≤ 57) ∧ (48 ≤ ltr d j → lv d j = ((ltr d j : Nat) : Int)) ∧ (∀ e : Nat, 0 < e → (lv d j = (e : Int) ↔ ltr d j = e)) := by
  unfold lv ltr
  by_cases c : j < dL d
  · have := hO.2.2.2.2.1 j c
    rw [if_pos c, if_pos c]
    exact ⟨by omega, by omega, by omega, fun _ => rfl, fun e he => by omega⟩
  · rw [if_neg c, if_neg c]
    exact ⟨by omega, by omega, by omega, fun h => by omega, fun e he => by omega⟩
theorem m_ltr {d : Dt} {σ : Sg} {j : Nat} (hO : OkD d) (hT : TextM σ d) (hj : j < 1000000) : Cal 85 [vR 40, vI j] σ = some (vI (lv d j), σ) := by
  have hL := hO.1.2.2.2.2.2.1
  have e0 : Cal 85 [vR 40, vI j] σ = _ := q85_0 (j : Int) σ
  rw [hT.1, wr_id (x := (j : Int)) (by omega) (by omega), wr_id (x := (dL d : Int)) (by omega) (by omega)] at e0
  unfold lv
  by_cases c : j < dL d
  · rw [if_pos (show (j : Int) < (dL d : Int) by omega), if_pos (show 0 ≤ (j : Int) ∧ (j : Int) < 200 by omega), toN, hT.2 j c] at e0
    rw [if_pos c]
    exact e0
  · rw [if_neg (show ¬ (j : Int) < (dL d : Int) by omega)] at e0
    rw [if_neg c]
    exact e0
theorem m_isF {v : Int} {σ : Sg} (hv : InR v) : Cal 86 [vI v] σ = some (vI (if 48 ≤ v ∧ v ≤ 57 then 1 else 0), σ) := by
  have e0 : Cal 86 [vI v] σ = _ := q86_0 v σ
  have e1 : Cal 79 [vI v, vI 48, vI 57] σ = some (vI (if 48 ≤ v ∧ v ≤ 57 then 1 else 0), σ) := in_m hv ⟨by omega, by omega⟩ ⟨by omega, by omega⟩
  rw [e1, kcI_s, if_pos (ite_01 _)] at e0
  exact e0
def K11 (σ σ' : Sg) : Prop := (∀ q, q ≠ 40 → σ' q = σ q) ∧ ∀ j, j ≠ 11 → σ' 40 j = σ 40 j
theorem K11.u {σ τ : Sg} {x : Int} (h : K11 σ τ) : K11 σ (up τ 40 11 x) := ⟨fun q hq => by rw [up_ne hq]; exact h.1 q hq, fun j hj => by rw [up_j, if_neg hj]; exact h.2 j hj⟩
theorem K11.rf (σ : Sg) : K11 σ σ := ⟨fun _ _ => rfl, fun _ _ => rfl⟩
theorem TextM.k {σ σ' : Sg} {d : Dt} (h : TextM σ d) (k : K11 σ σ') : TextM σ' d := ⟨by rw [k.2 1 (by decide)]; exact h.1, fun j hj => by rw [k.1 41 (by decide)]; exact h.2 j hj⟩
theorem m_n79 {d : Dt} {σ : Sg} {a v e : Nat} {hi : Int} (hO : OkD d) (hT : TextM σ d) (ha : σ 40 11 = (a : Int)) (hal : a < 10000) (hv : v ≤ 99) (he : 0 < e ∧ e < 200) (hh : -1 ≤ hi ∧ hi ≤ 30) : Run 87 79 [vR 40, vI hi, vI e, vI v, vJ] [] σ = some (vI (if ltr d a = e ∧ (v : Int) ≤ hi then (v : Int) else -1), up σ 40 11 ((a + 1 : Nat) : Int)) := by
  have hl := lv_ltr hO a
  have hq := hl.2.2.2.2 e he.1
  have ea : ((a : Nat) : Int) + 1 = ((a + 1 : Nat) : Int) := rfl
  rw [q87_79, ha, m_ltr hO hT (by omega), kcI_s, wr_id (x := lv d a) (by omega) (by omega), wr_id (x := (e : Int)) (by omega) (by omega), wr_id (x := hi) (by omega) (by omega), wr_id (x := (v : Int)) (by omega) (by omega)]
  by_cases c : ltr d a = e
  · rw [if_pos (hq.mpr c)]
    by_cases c2 : hi < (v : Int)
    · rw [if_pos c2, if_neg (by omega), q87_101, wr_0, if_pos rfl, ha, ea]
    · rw [if_neg c2, if_pos (by omega), q87_101, wr_1, if_neg (by decide), ha, ea]
  · rw [if_neg (fun z => c (hq.mp z)), if_neg (fun z => c z.1), q87_101, wr_0, if_pos rfl, ha, ea]
/-- one number of the reference -/
theorem m_num {d : Dt} {σ : Sg} {j e : Nat} {hi : Int} (hO : OkD d) (hT : TextM σ d) (hj : σ 40 11 = (j : Int)) (hjl : j < 1000) (he : 0 < e ∧ e < 200) (hh : -1 ≤ hi ∧ hi ≤ 30) : (isN d j e = true ∧ ((nmb d j : Nat) : Int) ≤ hi → ∃ σ', Cal 87 [vR 40, vI hi, vI e] σ = some (vI ((nmb d j : Nat) : Int), σ') ∧ σ' 40 11 = ((nxt d j : Nat) : Int) ∧ K11 σ σ') ∧ (¬ (isN d j e = true ∧ ((nmb d j : Nat) : Int) ≤ hi) → ∃ σ', Cal 87 [vR 40, vI hi, vI e] σ = some (vI (-1), σ') ∧ K11 σ σ') := by
  have hl := lv_ltr hO j
  have hl1 := lv_ltr hO (j + 1)
  have lj := ltr_le hO j
  have lj1 := ltr_le hO (j + 1)
  have e0 : Cal 87 [vR 40, vI hi, vI e] σ = _ := q87_0 hi (e : Int) σ
  rw [hj, m_ltr hO hT (by omega), kcI_s, m_isF ⟨by omega, by omega⟩, kcI_s] at e0
  by_cases c1 : 48 ≤ ltr d j ∧ ltr d j ≤ 57
  · obtain ⟨X, hX⟩ : ∃ X, X = up σ 40 11 ((j : Int) + 1) := ⟨_, rfl⟩
    have kX : K11 σ X := by rw [hX]; exact (K11.rf σ).u
    have xj : X 40 11 = ((j + 1 : Nat) : Int) := by rw [hX, up_e]; rfl
    rw [if_pos (hl.2.2.1.mpr c1), wr_1, if_neg (by decide), hj, m_ltr hO hT (by omega), kcI_s, hj, ← hX, xj, m_ltr hO (hT.k kX) (by omega), kcI_s, m_isF ⟨by omega, by omega⟩, kcI_s, hl.2.2.2.1 c1.1] at e0
    have ev : ∀ (f a v : Nat) (σ1 : Sg), K11 σ σ1 → fgs d j = f → f ≠ 0 → nmb d j = v → v ≤ 99 → σ1 40 11 = (a : Int) → j + f = a → Cal 87 [vR 40, vI hi, vI e] σ = Run 87 79 [vR 40, vI hi, vI e, vI v, vJ] [] σ1 → (isN d j e = true ∧ ((nmb d j : Nat) : Int) ≤ hi → ∃ σ', Cal 87 [vR 40, vI hi, vI e] σ = some (vI ((nmb d j : Nat) : Int), σ') ∧ σ' 40 11 = ((nxt d j : Nat) : Int) ∧ K11 σ σ') ∧ (¬ (isN d j e = true ∧ ((nmb d j : Nat) : Int) ≤ hi) → ∃ σ', Cal 87 [vR 40, vI hi, vI e] σ = some (vI (-1), σ') ∧ K11 σ σ') := fun f a v σ1 k1 hf hf0 hv hv9 ha haj hc => by
      have fl := fgs_le d j
      rw [m_n79 hO (hT.k k1) ha (by omega) hv9 he hh] at hc
      have hiff : isN d j e = true ↔ ltr d a = e := by
        rw [isN_iff, hf, haj]
        exact ⟨fun z => z.2, fun z => ⟨hf0, z⟩⟩
      refine ⟨fun h => ?_, fun h => ?_⟩
      · rw [if_pos ⟨hiff.mp h.1, by rw [← hv]; exact h.2⟩] at hc
        refine ⟨_, by rw [hv]; exact hc, ?_, k1.u⟩
        rw [up_e]
        unfold nxt
        rw [hf, ← haj]
        rfl
      · rw [if_neg (fun z => h ⟨hiff.mpr z.1, by rw [hv]; exact z.2⟩)] at hc
        exact ⟨_, hc, k1.u⟩
    by_cases c2 : 48 ≤ ltr d (j + 1) ∧ ltr d (j + 1) ≤ 57
    · obtain ⟨Y, hY⟩ : ∃ Y, Y = up X 40 11 (((j + 1 : Nat) : Int) + 1) := ⟨_, rfl⟩
      have kY : K11 σ Y := by rw [hY]; exact kX.u
      have hf : fgs d j = 2 := by
        unfold fgs
        rw [if_pos c1, if_pos c2]
      have hn : nmb d j = 10 * (ltr d j - 48) + (ltr d (j + 1) - 48) := by
        unfold nmb
        rw [hf, if_neg (by decide)]
      have en : ((10 * (ltr d j - 48) + (ltr d (j + 1) - 48) : Nat) : Int) = 10 * ((ltr d j : Int) - 48) + (ltr d (j + 1) : Int) - 48 := by omega
      rw [if_pos (hl1.2.2.1.mpr c2), wr_1, if_neg (by decide), xj, m_ltr hO (hT.k kX) (by omega), kcI_s, xj, ← hY, hl1.2.2.2.1 c2.1, ← en] at e0
      exact ev 2 (j + 2) _ Y kY hf (by decide) hn (by omega) (by rw [hY, up_e]; rfl) rfl e0
    · have hf : fgs d j = 1 := by
        unfold fgs
        rw [if_pos c1, if_neg c2]
      have hn : nmb d j = ltr d j - 48 := by
        unfold nmb
        rw [hf, if_pos rfl]
      have en : ((ltr d j - 48 : Nat) : Int) = (ltr d j : Int) - 48 := by omega
      rw [if_neg (fun z => c2 (hl1.2.2.1.mp z)), wr_0, if_pos rfl, ← en] at e0
      exact ev 1 (j + 1) _ X kX hf (by decide) hn (by omega) xj rfl e0
  · have hf : fgs d j = 0 := by
      unfold fgs
      rw [if_neg c1]
    rw [if_neg (fun z => c1 (hl.2.2.1.mp z)), wr_0, if_pos rfl] at e0
    exact ⟨fun h => absurd hf (isN_iff.mp h.1).1, fun _ => ⟨σ, e0, K11.rf σ⟩⟩
-- the draft
def DrM (σ : Sg) (D : Dt) : Prop := (σ 43 0 = ((D 0 0 : Nat) : Int) ∧ σ 43 1 = ((D 0 1 : Nat) : Int) ∧ σ 43 3 = ((D 0 2 : Nat) : Int) ∧ σ 43 2 = ((D 0 3 : Nat) : Int)) ∧ (∀ i, i < D 0 0 → σ 43 (4 + i) = ((D 1 i : Nat) : Int) ∧ σ 43 (11 + i) = ((D 2 i : Nat) : Int) ∧ σ 43 (18 + i) = ((D 3 i : Nat) : Int)) ∧ (∀ b, b < D 0 1 → σ 43 (25 + b) = ((D 4 b : Nat) : Int)) ∧ (∀ s, s < D 0 3 → σ 43 (33 + s) = ((D 5 s : Nat) : Int))
theorem DrM.k {σ σ' : Sg} {D : Dt} (h : DrM σ D) (hq : σ' 43 = σ 43) : DrM σ' D := by
  unfold DrM
  rw [hq]
  exact h
theorem m_adds {D : Dt} {σ : Sg} {a b c : Nat} (hR : OkR D) (hD : DrM σ D) (hn : D 0 0 < 7) : ∃ σ', Cal 75 [vR 40, vI a, vI b, vI c] σ = some (vI 0, σ') ∧ DrM σ' (addI D a b c) ∧ (∀ q, q ≠ 43 → σ' q = σ q) := by
  have hB := hR.1.2.1
  have hm : D 0 3 ≤ 7 := by have := hR.2.2.2.2.2; omega
  obtain ⟨⟨d1, d2, d3, d4⟩, d5, d6, d7⟩ := hD
  have e0 : Cal 75 [vR 40, vI a, vI b, vI c] σ = _ := q75_0 (a : Int) (b : Int) (c : Int) σ
  have e4 : 4 + ((D 0 0 : Nat) : Int) = ((4 + D 0 0 : Nat) : Int) := by omega
  have e11 : 11 + ((D 0 0 : Nat) : Int) = ((11 + D 0 0 : Nat) : Int) := by omega
  have e18 : 18 + ((D 0 0 : Nat) : Int) = ((18 + D 0 0 : Nat) : Int) := by omega
  rw [wr_0, Int.toNat_zero, d1, e4, e11, e18, wr_id (x := ((4 + D 0 0 : Nat) : Int)) (by omega) (by omega), wr_id (x := ((11 + D 0 0 : Nat) : Int)) (by omega) (by omega), wr_id (x := ((18 + D 0 0 : Nat) : Int)) (by omega) (by omega), toN, toN, toN, if_pos (show (0 : Int) ≤ 0 ∧ (0 : Int) < 40 by decide), if_pos (show 0 ≤ ((4 + D 0 0 : Nat) : Int) ∧ ((4 + D 0 0 : Nat) : Int) < 40 by omega), if_pos (show 0 ≤ ((11 + D 0 0 : Nat) : Int) ∧ ((11 + D 0 0 : Nat) : Int) < 40 by omega), if_pos (show 0 ≤ ((18 + D 0 0 : Nat) : Int) ∧ ((18 + D 0 0 : Nat) : Int) < 40 by omega), if_pos (show (0 : Int) ≤ 0 ∧ (0 : Int) < 40 by decide), if_pos (show (0 : Int) ≤ 0 ∧ (0 : Int) < 40 by decide)] at e0
  have z0 : up (up (up σ 43 (4 + D 0 0) (a : Int)) 43 (11 + D 0 0) (b : Int)) 43 (18 + D 0 0) (c : Int) 43 0 = ((D 0 0 : Nat) : Int) := by
    rw [up_j, if_neg (by omega), up_j, if_neg (by omega), up_j, if_neg (by omega), d1]
  rw [z0] at e0
  refine ⟨_, e0, ⟨⟨?_, ?_, ?_, ?_⟩, fun i hi => ⟨?_, ?_, ?_⟩, fun j hj => ?_, fun s hs => ?_⟩, fun q hq => ?_⟩
  · rw [aI_0, if_pos rfl, up_e]; rfl
  · rw [aI_0, if_neg (by decide), up_j, if_neg (by decide), up_j, if_neg (by omega), up_j, if_neg (by omega), up_j, if_neg (by omega), d2]
  · rw [aI_0, if_neg (by decide), up_j, if_neg (by decide), up_j, if_neg (by omega), up_j, if_neg (by omega), up_j, if_neg (by omega), d3]
  · rw [aI_0, if_neg (by decide), up_j, if_neg (by decide), up_j, if_neg (by omega), up_j, if_neg (by omega), up_j, if_neg (by omega), d4]
  · rw [aI_0, if_pos rfl] at hi
    rw [aI_1, up_j, if_neg (by omega), up_j, if_neg (by omega), up_j, if_neg (by omega), up_j]
    by_cases g : i = D 0 0
    · rw [if_pos (by omega), if_pos g]
    · rw [if_neg (by omega), if_neg g]; exact (d5 i (by omega)).1
  · rw [aI_0, if_pos rfl] at hi
    rw [aI_2, up_j, if_neg (by omega), up_j, if_neg (by omega), up_j]
    by_cases g : i = D 0 0
    · rw [if_pos (by omega), if_pos g]
    · rw [if_neg (by omega), if_neg g, up_j, if_neg (by omega)]; exact (d5 i (by omega)).2.1
  · rw [aI_0, if_pos rfl] at hi
    rw [aI_3, up_j, if_neg (by omega), up_j]
    by_cases g : i = D 0 0
    · rw [if_pos (by omega), if_pos g]
    · rw [if_neg (by omega), if_neg g, up_j, if_neg (by omega), up_j, if_neg (by omega)]; exact (d5 i (by omega)).2.2
  · rw [aI_0, if_neg (by decide)] at hj
    rw [aI_q (by decide), up_j, if_neg (by omega), up_j, if_neg (by omega), up_j, if_neg (by omega), up_j, if_neg (by omega)]
    exact d6 j hj
  · rw [aI_0, if_neg (by decide)] at hs
    rw [aI_q (by decide), up_j, if_neg (by omega), up_j, if_neg (by omega), up_j, if_neg (by omega), up_j, if_neg (by omega)]
    exact d7 s hs
  · rw [up_ne hq, up_ne hq, up_ne hq, up_ne hq]
theorem m_sits_loop {D : Dt} {σ : Sg} {i : Nat} (hm7 : D 0 3 ≤ 7) (hS : ∀ s, s < D 0 3 → D 5 s < 7) (hD : DrM σ D) (hi : i < 7) : ∀ (r k : Nat), k + r = D 0 3 → Run 76 4 [vR 40, vI i, vI (if (tsM (D 5) k).testBit i = true then 1 else 0), vI k] [] σ = Run 76 4 [vR 40, vI i, vI (if (tsM (D 5) (D 0 3)).testBit i = true then 1 else 0), vI ((D 0 3 : Nat) : Int)] [] σ
  | 0, k, h => by
    have e : k = D 0 3 := by omega
    rw [e]
  | r + 1, k, h => by
    have w2 : wr 2 = 2 := by decide
    have hk : k < D 0 3 := by omega
    have hf := hS k hk
    have ih := m_sits_loop hm7 hS hD hi r (k + 1) (by omega)
    have hb : (tsM (D 5) (k + 1)).testBit i = ((tsM (D 5) k).testBit i || decide (D 5 k = i)) := by
      show (tsM (D 5) k ||| 2 ^ D 5 k).testBit i = _
      rw [Nat.testBit_or, Nat.testBit_two_pow]
    have e33 : 33 + (k : Int) = ((33 + k : Nat) : Int) := by omega
    have e0 := q76_4 (i : Int) (if (tsM (D 5) k).testBit i = true then 1 else 0) (k : Int) σ
    rw [w2, if_pos (show (0 : Int) ≤ 2 ∧ (2 : Int) < 40 by decide), show (2 : Int).toNat = 2 from rfl, hD.1.2.2.2, wr_id (x := (k : Int)) (by omega) (by omega), wr_id (x := ((D 0 3 : Nat) : Int)) (by omega) (by omega), if_pos (show (k : Int) < ((D 0 3 : Nat) : Int) by omega), e33, wr_id (x := ((33 + k : Nat) : Int)) (by omega) (by omega), if_pos (show 0 ≤ ((33 + k : Nat) : Int) ∧ ((33 + k : Nat) : Int) < 40 by omega), toN, hD.2.2.2 k hk, wr_id (x := ((D 5 k : Nat) : Int)) (by omega) (by omega), wr_id (x := (i : Int)) (by omega) (by omega)] at e0
    refine e0.trans (Eq.trans ?_ ih)
    by_cases c : (tsM (D 5) k).testBit i = true
    · rw [if_pos c, wr_1, if_neg (by decide), hb, c, Bool.true_or, if_pos rfl]
      rfl
    · have c' : (tsM (D 5) k).testBit i = false := by simpa using c
      rw [if_neg c, wr_0, if_pos rfl, hb, c', Bool.false_or]
      by_cases c2 : D 5 k = i
      · rw [if_pos (by omega), if_pos (by rw [decide_eq_true_eq]; exact c2)]
        rfl
      · rw [if_neg (by omega), if_neg (by rw [decide_eq_true_eq]; exact c2)]
        rfl
theorem m_sits {D : Dt} {σ : Sg} {i : Nat} (hn : D 0 0 ≤ 7) (hB : D 0 1 ≤ 8) (hS : OkS (D 5) (D 0 3) (D 0 0)) (hD : DrM σ D) (hi : i < D 0 0) : ∃ σ', Cal 76 [vR 40, vI i] σ = some (vI 0, σ') ∧ DrM σ' (addS D i) ∧ (∀ q, q ≠ 43 → σ' q = σ q) := by
  have w2 : wr 2 = 2 := by decide
  have hm7 : D 0 3 ≤ 7 := by have := hS.2.2; omega
  have el0 := m_sits_loop hm7 (fun s hs => by have := hS.1 s hs; omega) hD (by omega : i < 7) (D 0 3) 0 (by omega)
  rw [show tsM (D 5) 0 = 0 from rfl, Nat.zero_testBit, if_neg (show ¬ false = true by decide)] at el0
  have el : Run 76 4 [vR 40, vI i, vI 0, vI 0] [] σ = _ := el0
  have e0 : Cal 76 [vR 40, vI i] σ = _ := (q76_0 (i : Int) σ).trans el
  rw [q76_4, w2, if_pos (show (0 : Int) ≤ 2 ∧ (2 : Int) < 40 by decide), show (2 : Int).toNat = 2 from rfl, hD.1.2.2.2, if_neg (show ¬ wr ((D 0 3 : Nat) : Int) < wr ((D 0 3 : Nat) : Int) by omega)] at e0
  unfold addS
  by_cases c : (tsM (D 5) (D 0 3)).testBit i = true
  · rw [if_pos c, wr_1, if_neg (show ¬ (1 : Int) = 0 by decide)] at e0
    rw [if_pos c]
    exact ⟨σ, e0, hD, fun _ _ => rfl⟩
  · have c' : (tsM (D 5) (D 0 3)).testBit i = false := by simpa using c
    have hm := hS.lt (by omega) c'
    obtain ⟨⟨d1, d2, d3, d4⟩, d5, d6, d7⟩ := hD
    have e33 : 33 + ((D 0 3 : Nat) : Int) = ((33 + D 0 3 : Nat) : Int) := by omega
    rw [if_neg c, wr_0, if_pos rfl, if_pos (show (0 : Int) ≤ 2 ∧ (2 : Int) < 40 by decide), e33, wr_id (x := ((33 + D 0 3 : Nat) : Int)) (by omega) (by omega), if_pos (show 0 ≤ ((33 + D 0 3 : Nat) : Int) ∧ ((33 + D 0 3 : Nat) : Int) < 40 by omega), toN, if_pos (show (0 : Int) ≤ 2 ∧ (2 : Int) < 40 by decide), if_pos (show (0 : Int) ≤ 2 ∧ (2 : Int) < 40 by decide), up_j, if_neg (by omega), d4] at e0
    rw [if_neg c]
    refine ⟨_, e0, ⟨⟨?_, ?_, ?_, ?_⟩, fun i hi => ⟨?_, ?_, ?_⟩, fun j hj => ?_, fun s hs => ?_⟩, fun q hq => ?_⟩
    · rw [dq_j, if_neg (by decide), dq_q _ _ _ _ (by decide), up_j, if_neg (by decide), up_j, if_neg (by omega), d1]
    · rw [dq_j, if_neg (by decide), dq_q _ _ _ _ (by decide), up_j, if_neg (by decide), up_j, if_neg (by omega), d2]
    · rw [dq_j, if_neg (by decide), dq_q _ _ _ _ (by decide), up_j, if_neg (by decide), up_j, if_neg (by omega), d3]
    · rw [dq_j, if_pos rfl, up_e]; rfl
    · rw [dq_j, if_neg (by decide), dq_q _ _ _ _ (by decide)] at hi
      rw [dq_q _ _ _ _ (by decide), dq_q _ _ _ _ (by decide), up_j, if_neg (by omega), up_j, if_neg (by omega)]
      exact (d5 i hi).1
    · rw [dq_j, if_neg (by decide), dq_q _ _ _ _ (by decide)] at hi
      rw [dq_q _ _ _ _ (by decide), dq_q _ _ _ _ (by decide), up_j, if_neg (by omega), up_j, if_neg (by omega)]
      exact (d5 i hi).2.1
    · rw [dq_j, if_neg (by decide), dq_q _ _ _ _ (by decide)] at hi
      rw [dq_q _ _ _ _ (by decide), dq_q _ _ _ _ (by decide), up_j, if_neg (by omega), up_j, if_neg (by omega)]
      exact (d5 i hi).2.2
    · rw [dq_j, if_neg (by decide), dq_q _ _ _ _ (by decide)] at hj
      rw [dq_q _ _ _ _ (by decide), dq_q _ _ _ _ (by decide), up_j, if_neg (by omega), up_j, if_neg (by omega)]
      exact d6 j hj
    · rw [dq_j, if_pos rfl] at hs
      rw [dq_q _ _ _ _ (by decide), dq_j, up_j, if_neg (by omega), up_j]
      by_cases g : s = D 0 3
      · rw [if_pos (by omega), if_pos g]
      · rw [if_neg (by omega), if_neg g]; exact d7 s (by omega)
    · rw [up_ne hq, up_ne hq]
theorem m_begins_loop : ∀ (r k : Nat) (σ : Sg), k + r = 40 → (∀ j, j < k → σ 43 j = 0) → ∃ σ', Run 74 2 [vR 40, vI k] [] σ = some (vI 0, σ') ∧ (∀ j, j < 40 → σ' 43 j = 0) ∧ (∀ q, q ≠ 43 → σ' q = σ q)
  | 0, k, σ, h, hz => by
    have w40 : wr 40 = 40 := by decide
    refine ⟨σ, ?_, fun j hj => hz j (by omega), fun _ _ => rfl⟩
    rw [q74_2, w40, wr_id (x := (k : Int)) (by omega) (by omega), if_neg (by omega)]
  | r + 1, k, σ, h, hz => by
    have w40 : wr 40 = 40 := by decide
    obtain ⟨σ', t1, t2, t3⟩ := m_begins_loop r (k + 1) (up σ 43 k 0) (by omega) (fun j hj => by
      rw [up_j]
      by_cases c : j = k
      · rw [if_pos c]
      · rw [if_neg c]; exact hz j (by omega))
    refine ⟨σ', ?_, t2, fun q hq => by rw [t3 q hq, up_ne hq]⟩
    rw [q74_2, w40, wr_id (x := (k : Int)) (by omega) (by omega), if_pos (by omega), if_pos (by omega), toN]
    exact t1
theorem m_begins (σ : Sg) : ∃ σ', Cal 74 [vR 40] σ = some (vI 0, σ') ∧ DrM σ' D0 ∧ (∀ q, q ≠ 43 → σ' q = σ q) := by
  obtain ⟨σ', t1, t2, t3⟩ := m_begins_loop 40 0 σ (by omega) (fun j hj => by omega)
  exact ⟨σ', (q74_0 σ).trans t1, ⟨⟨t2 0 (by decide), t2 1 (by decide), t2 3 (by decide), t2 2 (by decide)⟩, fun i hi => absurd hi (Nat.not_lt_zero i), fun i hi => absurd hi (Nat.not_lt_zero i), fun i hi => absurd hi (Nat.not_lt_zero i)⟩, t3⟩
