/-! THE TEXT in the class: letters, numbers, one item -/
theorem isN_iff {d : Dt} {j e : Nat} : isN d j e = true ↔ fgs d j ≠ 0 ∧ ltr d (j + fgs d j) = e := by
  unfold isN
  rw [Bool.and_eq_true, decide_eq_true_eq, decide_eq_true_eq]
theorem ltr_le {d : Dt} (hO : OkD d) (j : Nat) : ltr d j ≤ 126 := by
  unfold ltr
  by_cases c : j < dL d
  · rw [if_pos c]
    exact (hO.2.2.2.2.1 j c).2
  · rw [if_neg c]
    omega
theorem c_ltr {d : Dt} {σ : Sg} {j : Nat} (hO : OkD d) (hT : TextI σ d) (hj : j < 1000000) : Cal 16 [vR 11, vI j] σ = some (vI ((ltr d j : Nat) : Int), σ) := by
  have hL := hO.1.2.2.2.2.2.1
  have e0 : Cal 16 [vR 11, vI j] σ = _ := q16_0 (j : Int) σ
  rw [hT.1, wr_id (x := (j : Int)) (by omega) (by omega), wr_id (x := (dL d : Int)) (by omega) (by omega), if_neg (show ¬ (j : Int) < 0 by omega)] at e0
  unfold ltr
  by_cases c : j < dL d
  · have h1 := hO.2.2.2.2.1 j c
    rw [if_pos (show (j : Int) < (dL d : Int) by omega), if_pos (show 0 ≤ (j : Int) ∧ (j : Int) < 200 by omega), toN, hT.2 j c, if_pos (show 0 ≤ ((d 6 j : Nat) : Int) ∧ ((d 6 j : Nat) : Int) < 65536 by omega)] at e0
    rw [if_pos c]
    exact e0
  · rw [if_neg (show ¬ (j : Int) < (dL d : Int) by omega), if_pos (show (0 : Nat) ≤ 0 ∧ (0 : Nat) < 65536 by decide)] at e0
    rw [if_neg c]
    exact e0
theorem c_isF {v : Nat} {σ : Sg} (hv : v ≤ 200) : Cal 17 [vI v] σ = some (vI (if 48 ≤ v ∧ v ≤ 57 then 1 else 0), σ) := by
  have w1 : wr 48 = 48 := by decide
  have w2 : wr 57 = 57 := by decide
  have e0 : Cal 17 [vI v] σ = _ := q17_0 (v : Int) σ
  rw [w1, w2, wr_id (x := (v : Int)) (by omega) (by omega), if_pos (Or.inl rfl), if_pos (Or.inr rfl)] at e0
  by_cases c1 : v < 48
  · rw [if_pos (show (v : Int) < 48 by omega)] at e0
    rw [if_neg (by omega)]
    exact e0
  · rw [if_neg (show ¬ (v : Int) < 48 by omega)] at e0
    by_cases c2 : 57 < v
    · rw [if_pos (show (57 : Int) < (v : Int) by omega)] at e0
      rw [if_neg (by omega)]
      exact e0
    · rw [if_neg (show ¬ (57 : Int) < (v : Int) by omega)] at e0
      rw [if_pos (by omega)]
      exact e0
theorem c_fgs {d : Dt} {σ : Sg} {j : Nat} (hO : OkD d) (hT : TextI σ d) (hj : j < 100000) : Cal 18 [vR 11, vI j] σ = some (vI ((fgs d j : Nat) : Int), σ) := by
  have l1 := ltr_le hO j
  have l2 := ltr_le hO (j + 1)
  have e0 : Cal 18 [vR 11, vI j] σ = _ := q18_0 (j : Int) σ
  have e1 : Cal 16 [vR 11, vI ((j : Int) + 1)] σ = some (vI ((ltr d (j + 1) : Nat) : Int), σ) := c_ltr hO hT (by omega : j + 1 < 1000000)
  rw [c_ltr hO hT (by omega), kcI_s, c_isF (by omega), kcI_s, e1, kcI_s, c_isF (by omega), kcI_s] at e0
  unfold fgs
  by_cases c1 : 48 ≤ ltr d j ∧ ltr d j ≤ 57
  · rw [if_pos c1, wr_1, if_neg (show ¬ (1 : Int) = 0 by decide)] at e0
    rw [if_pos c1]
    by_cases c2 : 48 ≤ ltr d (j + 1) ∧ ltr d (j + 1) ≤ 57
    · rw [if_pos c2, wr_1, if_neg (show ¬ (1 : Int) = 0 by decide)] at e0
      rw [if_pos c2]
      exact e0
    · rw [if_neg c2, wr_0, if_pos rfl] at e0
      rw [if_neg c2]
      exact e0
  · rw [if_neg c1, wr_0, if_pos rfl] at e0
    rw [if_neg c1]
    exact e0
theorem fgs_le (d : Dt) (j : Nat) : fgs d j ≤ 2 := by
  unfold fgs
  split
  · split <;> omega
  · omega
theorem fgs_f {d : Dt} {j : Nat} (h : fgs d j ≠ 0) : (48 ≤ ltr d j ∧ ltr d j ≤ 57) ∧ (fgs d j ≠ 1 → 48 ≤ ltr d (j + 1) ∧ ltr d (j + 1) ≤ 57) := by
  unfold fgs at h ⊢
  by_cases c1 : 48 ≤ ltr d j ∧ ltr d j ≤ 57
  · rw [if_pos c1] at h ⊢
    refine ⟨c1, fun g => ?_⟩
    by_cases c2 : 48 ≤ ltr d (j + 1) ∧ ltr d (j + 1) ≤ 57
    · exact c2
    · rw [if_neg c2] at g
      exact absurd rfl g
  · rw [if_neg c1] at h
    exact absurd rfl h
theorem nmb_le {d : Dt} {j : Nat} (h : fgs d j ≠ 0) : nmb d j ≤ 99 := by
  have h1 := fgs_f h
  unfold nmb
  split
  · omega
  · have := h1.2 (by assumption)
    omega
theorem c_nmb {d : Dt} {σ : Sg} {j : Nat} (hO : OkD d) (hT : TextI σ d) (hj : j < 100000) (hf : fgs d j ≠ 0) : Cal 19 [vR 11, vI j, vI ((fgs d j : Nat) : Int)] σ = some (vI ((nmb d j : Nat) : Int), σ) := by
  have l1 := ltr_le hO j
  have l2 := ltr_le hO (j + 1)
  have lf := fgs_le d j
  have hh := fgs_f hf
  have e0 : Cal 19 [vR 11, vI j, vI ((fgs d j : Nat) : Int)] σ = _ := q19_0 (j : Int) ((fgs d j : Nat) : Int) σ
  have e1 : Cal 16 [vR 11, vI ((j : Int) + 1)] σ = some (vI ((ltr d (j + 1) : Nat) : Int), σ) := c_ltr hO hT (by omega : j + 1 < 1000000)
  rw [c_ltr hO hT (by omega), kcI_s, wr_id (x := ((fgs d j : Nat) : Int)) (by omega) (by omega), wr_1, e1, kcI_s] at e0
  unfold nmb
  by_cases c : fgs d j = 1
  · rw [if_pos (by omega)] at e0
    rw [if_pos c]
    have : (((ltr d j - 48 : Nat)) : Int) = (ltr d j : Int) - 48 := by omega
    rw [this]
    exact e0
  · rw [if_neg (by omega)] at e0
    rw [if_neg c]
    have h2 := hh.2 c
    have : ((10 * (ltr d j - 48) + (ltr d (j + 1) - 48) : Nat) : Int) = 10 * ((ltr d j : Int) - 48) + (ltr d (j + 1) : Int) - 48 := by omega
    rw [this]
    exact e0
/-- one number -/
theorem c_num {d : Dt} {σ : Sg} {p many j k : Nat} {x5 x6 : AV} (hO : OkD d) (hT : TextI σ d) (hj : j < 10000) (hk : k < many) (hm : many ≤ 3) :
    Run 20 17 [vR 11, vI p, vI many, vI j, vI k, x5, x6] [] σ = if isN d j (if k + 1 < many then 44 else 59) = true then Run 20 17 [vR 11, vI p, vI many, vI ((nxt d j : Nat) : Int), vI ((k + 1 : Nat) : Int), vI ((fgs d j : Nat) : Int), vI ((if k + 1 < many then 44 else 59 : Nat) : Int)] [] (up σ 13 k ((nmb d j : Nat) : Int)) else some (vI p, σ) := by
  have lf := fgs_le d j
  have key : ∀ e : Nat, e < 200 → Run 20 45 [vR 11, vI p, vI many, vI j, vI k, vI ((fgs d j : Nat) : Int), x6] [vI (e : Int)] σ = if isN d j e = true then Run 20 17 [vR 11, vI p, vI many, vI ((nxt d j : Nat) : Int), vI ((k + 1 : Nat) : Int), vI ((fgs d j : Nat) : Int), vI (e : Int)] [] (up σ 13 k ((nmb d j : Nat) : Int)) else some (vI p, σ) := fun e he => by
    have l1 := ltr_le hO (j + fgs d j)
    have e1 : Cal 16 [vR 11, vI ((j : Int) + ((fgs d j : Nat) : Int))] σ = some (vI ((ltr d (j + fgs d j) : Nat) : Int), σ) := c_ltr hO hT (by omega : j + fgs d j < 1000000)
    rw [q20_45, wr_id (x := ((fgs d j : Nat) : Int)) (by omega) (by omega), e1, kcI_s, wr_id (x := ((ltr d (j + fgs d j) : Nat) : Int)) (by omega) (by omega), wr_id (x := (e : Int)) (by omega) (by omega)]
    by_cases c1 : fgs d j = 0
    · rw [if_pos (by omega), if_neg (fun z => (isN_iff.mp z).1 c1)]
    · rw [if_neg (by omega)]
      by_cases c2 : ltr d (j + fgs d j) = e
      · rw [if_pos (by omega), if_pos (isN_iff.mpr ⟨c1, c2⟩), c_nmb hO hT (by omega) c1, kcI_s, wr_id (x := (k : Int)) (by omega) (by omega), if_pos (by omega), toN]
        rfl
      · rw [if_neg (by omega), if_neg (fun z => c2 (isN_iff.mp z).2)]
  have wk : wr ((k : Int) + 1) = (k : Int) + 1 := wr_id (by omega) (by omega)
  rw [q20_17, wr_id (x := (k : Int)) (by omega) (by omega), wr_id (x := (many : Int)) (by omega) (by omega), wk, if_pos (by omega), c_fgs hO hT (by omega), kcI_s]
  by_cases c : k + 1 < many
  · rw [if_pos (by omega), if_pos c]
    exact key 44 (by omega)
  · rw [if_neg (by omega), if_neg c]
    exact key 59 (by omega)
theorem c_numE {σ : Sg} {p many j : Nat} {x5 x6 : AV} (hm : many ≤ 3) (hm0 : 0 < many) : Run 20 17 [vR 11, vI p, vI many, vI j, vI many, x5, x6] [] σ = some (vI j, σ) := by
  rw [q20_17, wr_id (x := (many : Int)) (by omega) (by omega), if_neg (by omega), if_neg (by omega)]
theorem c_num0 {σ : Sg} {p j : Nat} {x5 x6 : AV} : Run 20 17 [vR 11, vI p, vI 0, vI j, vI 0, x5, x6] [] σ = some (vI p, σ) := by
  rw [q20_17, wr_0, if_neg (by decide), if_pos rfl]
theorem TextI.k {σ σ' : Sg} {d : Dt} (h : TextI σ d) (h1 : σ' 11 = σ 11) (h2 : σ' 12 = σ 12) : TextI σ' d := ⟨by rw [h1]; exact h.1, fun j hj => by rw [h2]; exact h.2 j hj⟩
theorem TextI.u13 {σ : Sg} {d : Dt} {k : Nat} {x : Int} (h : TextI σ d) : TextI (up σ 13 k x) d := h.k (up_ne (by decide)) (up_ne (by decide))
theorem c_many {c : Nat} {σ : Sg} (hc : c ≤ 200) : Cal 15 [vI c] σ = some (vI ((if c = 105 then 3 else if c = 98 then 2 else if c = 115 then 1 else if c = 103 then 1 else 0 : Nat) : Int), σ) := by
  have e0 : Cal 15 [vI c] σ = _ := q15_0 (c : Int) σ
  rw [wr_id (x := (c : Int)) (by omega) (by omega)] at e0
  rw [e0]
  by_cases c1 : c = 105
  · rw [if_pos c1, if_neg (by omega), if_neg (by omega), if_pos (by omega)]; rfl
  · rw [if_neg c1]
    by_cases c2 : c = 98
    · rw [if_pos c2, if_pos (by omega)]; rfl
    · rw [if_neg c2, if_neg (by omega)]
      by_cases c3 : c = 115
      · rw [if_pos c3, if_neg (by omega), if_neg (by omega), if_pos (by omega)]; rfl
      · rw [if_neg c3]
        by_cases c4 : c = 103
        · rw [if_pos c4, if_pos (by omega)]; rfl
        · rw [if_neg c4, if_neg (by omega), if_neg (by omega), if_neg (by omega)]; rfl
theorem nxt_le (d : Dt) (j : Nat) : j < nxt d j ∧ nxt d j ≤ j + 3 := by
  have := fgs_le d j
  unfold nxt
  omega
/-- the item's form: where it ends, its numbers -/
theorem c_item3 {d : Dt} {σ : Sg} {p : Nat} (hO : OkD d) (hT : TextI σ d) (hp : p < dL d) (hc : d 6 p = 105) : ∃ σ', (∀ q, q ≠ 13 → σ' q = σ q) ∧ ((isN d (p + 1) 44 = true ∧ isN d (nxt d (p + 1)) 44 = true ∧ isN d (nxt d (nxt d (p + 1))) 59 = true → Cal 20 [vR 11, vI p] σ = some (vI ((nxt d (nxt d (nxt d (p + 1))) : Nat) : Int), σ') ∧ σ' 13 0 = ((nmb d (p + 1) : Nat) : Int) ∧ σ' 13 1 = ((nmb d (nxt d (p + 1)) : Nat) : Int) ∧ σ' 13 2 = ((nmb d (nxt d (nxt d (p + 1))) : Nat) : Int)) ∧ (¬ (isN d (p + 1) 44 = true ∧ isN d (nxt d (p + 1)) 44 = true ∧ isN d (nxt d (nxt d (p + 1))) 59 = true) → Cal 20 [vR 11, vI p] σ = some (vI p, σ'))) := by
  have hL := hO.1.2.2.2.2.2.1
  have b1 := nxt_le d (p + 1)
  have b2 := nxt_le d (nxt d (p + 1))
  have e0 : Cal 20 [vR 11, vI p] σ = _ := q20_0 (p : Int) σ
  rw [wr_id (x := (p : Int)) (by omega) (by omega), if_pos (by omega), toN, hT.2 p hp, c_many (by omega), kcI_s, if_pos hc] at e0
  have n1 := c_num (p := p) (many := 3) (j := p + 1) (k := 0) (x5 := vJ) (x6 := vJ) hO hT (by omega) (by omega) (by omega)
  have e1 : Cal 20 [vR 11, vI p] σ = _ := e0.trans n1
  rw [show (if 0 + 1 < 3 then 44 else 59 : Nat) = 44 from rfl] at e1
  by_cases c1 : isN d (p + 1) 44 = true
  · rw [if_pos c1] at e1
    have n2 := c_num (p := p) (many := 3) (j := nxt d (p + 1)) (k := 1) (x5 := vI ((fgs d (p + 1) : Nat) : Int)) (x6 := vI ((44 : Nat) : Int)) hO (hT.u13 (k := 0) (x := ((nmb d (p + 1) : Nat) : Int))) (by omega) (by omega) (by omega)
    have e2 : Cal 20 [vR 11, vI p] σ = _ := e1.trans n2
    rw [show (if 1 + 1 < 3 then 44 else 59 : Nat) = 44 from rfl] at e2
    by_cases c2 : isN d (nxt d (p + 1)) 44 = true
    · rw [if_pos c2] at e2
      have n3 := c_num (p := p) (many := 3) (j := nxt d (nxt d (p + 1))) (k := 2) (x5 := vI ((fgs d (nxt d (p + 1)) : Nat) : Int)) (x6 := vI ((44 : Nat) : Int)) hO ((hT.u13 (k := 0) (x := ((nmb d (p + 1) : Nat) : Int))).u13 (k := 1) (x := ((nmb d (nxt d (p + 1)) : Nat) : Int))) (by omega) (by omega) (by omega)
      have e3 : Cal 20 [vR 11, vI p] σ = _ := e2.trans n3
      rw [show (if 2 + 1 < 3 then 44 else 59 : Nat) = 59 from rfl] at e3
      by_cases c3 : isN d (nxt d (nxt d (p + 1))) 59 = true
      · rw [if_pos c3] at e3
        have e4 : Cal 20 [vR 11, vI p] σ = _ := e3.trans (c_numE (p := p) (many := 3) (by decide) (by decide))
        refine ⟨_, fun q hq => ?_, fun _ => ⟨e4, ?_, ?_, ?_⟩, fun z => absurd ⟨c1, c2, c3⟩ z⟩
        · rw [up_ne hq, up_ne hq, up_ne hq]
        · rw [up_j, if_neg (by decide), up_j, if_neg (by decide), up_e]
        · rw [up_j, if_neg (by decide), up_e]
        · rw [up_e]
      · rw [if_neg c3] at e3
        refine ⟨_, fun q hq => ?_, fun z => absurd z.2.2 c3, fun _ => e3⟩
        rw [up_ne hq, up_ne hq]
    · rw [if_neg c2] at e2
      refine ⟨_, fun q hq => ?_, fun z => absurd z.2.1 c2, fun _ => e2⟩
      rw [up_ne hq]
  · rw [if_neg c1] at e1
    exact ⟨σ, fun _ _ => rfl, fun z => absurd z.1 c1, fun _ => e1⟩
theorem c_item2 {d : Dt} {σ : Sg} {p : Nat} (hO : OkD d) (hT : TextI σ d) (hp : p < dL d) (hc : d 6 p = 98) : ∃ σ', (∀ q, q ≠ 13 → σ' q = σ q) ∧ ((isN d (p + 1) 44 = true ∧ isN d (nxt d (p + 1)) 59 = true → Cal 20 [vR 11, vI p] σ = some (vI ((nxt d (nxt d (p + 1)) : Nat) : Int), σ') ∧ σ' 13 0 = ((nmb d (p + 1) : Nat) : Int) ∧ σ' 13 1 = ((nmb d (nxt d (p + 1)) : Nat) : Int)) ∧ (¬ (isN d (p + 1) 44 = true ∧ isN d (nxt d (p + 1)) 59 = true) → Cal 20 [vR 11, vI p] σ = some (vI p, σ'))) := by
  have hL := hO.1.2.2.2.2.2.1
  have b1 := nxt_le d (p + 1)
  have e0 : Cal 20 [vR 11, vI p] σ = _ := q20_0 (p : Int) σ
  rw [wr_id (x := (p : Int)) (by omega) (by omega), if_pos (by omega), toN, hT.2 p hp, c_many (by omega), kcI_s, if_neg (by omega), if_pos hc] at e0
  have n1 := c_num (p := p) (many := 2) (j := p + 1) (k := 0) (x5 := vJ) (x6 := vJ) hO hT (by omega) (by omega) (by omega)
  have e1 : Cal 20 [vR 11, vI p] σ = _ := e0.trans n1
  rw [show (if 0 + 1 < 2 then 44 else 59 : Nat) = 44 from rfl] at e1
  by_cases c1 : isN d (p + 1) 44 = true
  · rw [if_pos c1] at e1
    have n2 := c_num (p := p) (many := 2) (j := nxt d (p + 1)) (k := 1) (x5 := vI ((fgs d (p + 1) : Nat) : Int)) (x6 := vI ((44 : Nat) : Int)) hO (hT.u13 (k := 0) (x := ((nmb d (p + 1) : Nat) : Int))) (by omega) (by omega) (by omega)
    have e2 : Cal 20 [vR 11, vI p] σ = _ := e1.trans n2
    rw [show (if 1 + 1 < 2 then 44 else 59 : Nat) = 59 from rfl] at e2
    by_cases c2 : isN d (nxt d (p + 1)) 59 = true
    · rw [if_pos c2] at e2
      have e4 : Cal 20 [vR 11, vI p] σ = _ := e2.trans (c_numE (p := p) (many := 2) (by decide) (by decide))
      refine ⟨_, fun q hq => ?_, fun _ => ⟨e4, ?_, ?_⟩, fun z => absurd ⟨c1, c2⟩ z⟩
      · rw [up_ne hq, up_ne hq]
      · rw [up_j, if_neg (by decide), up_e]
      · rw [up_e]
    · rw [if_neg c2] at e2
      refine ⟨_, fun q hq => ?_, fun z => absurd z.2 c2, fun _ => e2⟩
      rw [up_ne hq]
  · rw [if_neg c1] at e1
    exact ⟨σ, fun _ _ => rfl, fun z => absurd z.1 c1, fun _ => e1⟩
theorem c_item1 {d : Dt} {σ : Sg} {p : Nat} (hO : OkD d) (hT : TextI σ d) (hp : p < dL d) (hc : d 6 p = 115 ∨ d 6 p = 103) : ∃ σ', (∀ q, q ≠ 13 → σ' q = σ q) ∧ ((isN d (p + 1) 59 = true → Cal 20 [vR 11, vI p] σ = some (vI ((nxt d (p + 1) : Nat) : Int), σ') ∧ σ' 13 0 = ((nmb d (p + 1) : Nat) : Int)) ∧ (¬ isN d (p + 1) 59 = true → Cal 20 [vR 11, vI p] σ = some (vI p, σ'))) := by
  have hL := hO.1.2.2.2.2.2.1
  have e0 : Cal 20 [vR 11, vI p] σ = _ := q20_0 (p : Int) σ
  have em : (if d 6 p = 105 then 3 else if d 6 p = 98 then 2 else if d 6 p = 115 then 1 else if d 6 p = 103 then 1 else 0 : Nat) = 1 := by
    rcases hc with g | g <;> rw [g] <;> rfl
  rw [wr_id (x := (p : Int)) (by omega) (by omega), if_pos (by omega), toN, hT.2 p hp, c_many (by omega), kcI_s, em] at e0
  have n1 := c_num (p := p) (many := 1) (j := p + 1) (k := 0) (x5 := vJ) (x6 := vJ) hO hT (by omega) (by omega) (by omega)
  have e1 : Cal 20 [vR 11, vI p] σ = _ := e0.trans n1
  rw [show (if 0 + 1 < 1 then 44 else 59 : Nat) = 59 from rfl] at e1
  by_cases c1 : isN d (p + 1) 59 = true
  · rw [if_pos c1] at e1
    have e4 : Cal 20 [vR 11, vI p] σ = _ := e1.trans (c_numE (p := p) (many := 1) (by decide) (by decide))
    refine ⟨_, fun q hq => ?_, fun _ => ⟨e4, up_e _ _ _ _⟩, fun z => absurd c1 z⟩
    rw [up_ne hq]
  · rw [if_neg c1] at e1
    exact ⟨σ, fun _ _ => rfl, fun z => absurd z c1, fun _ => e1⟩
theorem c_item0 {d : Dt} {σ : Sg} {p : Nat} (hO : OkD d) (hT : TextI σ d) (hp : p < dL d) (h1 : d 6 p ≠ 105) (h2 : d 6 p ≠ 98) (h3 : d 6 p ≠ 115) (h4 : d 6 p ≠ 103) : Cal 20 [vR 11, vI p] σ = some (vI p, σ) := by
  have hL := hO.1.2.2.2.2.2.1
  have hl := hO.2.2.2.2.1 p hp
  have e0 : Cal 20 [vR 11, vI p] σ = _ := q20_0 (p : Int) σ
  rw [wr_id (x := (p : Int)) (by omega) (by omega), if_pos (by omega), toN, hT.2 p hp, c_many (by omega), kcI_s, if_neg h1, if_neg h2, if_neg h3, if_neg h4] at e0
  have n1 := c_num0 (σ := σ) (p := p) (j := p + 1) (x5 := vJ) (x6 := vJ)
  exact e0.trans n1
