/-! THE TEXT: what is read, item by item, into a draft D (row 0: instruments, bars, gaps, told seats) -/
def ltr (d : Dt) (j : Nat) : Nat := if j < dL d then d 6 j else 0
def fgs (d : Dt) (j : Nat) : Nat := if 48 ≤ ltr d j ∧ ltr d j ≤ 57 then (if 48 ≤ ltr d (j + 1) ∧ ltr d (j + 1) ≤ 57 then 2 else 1) else 0
def nmb (d : Dt) (j : Nat) : Nat := if fgs d j = 1 then ltr d j - 48 else 10 * (ltr d j - 48) + (ltr d (j + 1) - 48)
def isN (d : Dt) (j e : Nat) : Bool := decide (fgs d j ≠ 0) && decide (ltr d (j + fgs d j) = e)
def nxt (d : Dt) (j : Nat) : Nat := j + (fgs d j + 1)
def addI (D : Dt) (a b c : Nat) : Dt := uq (uq (uq (uq D 1 (D 0 0) a) 2 (D 0 0) b) 3 (D 0 0) c) 0 0 (D 0 0 + 1)
def addB (D : Dt) (a b : Nat) : Dt := uq (uq D 4 (D 0 1) (a + 16 * b)) 0 1 (D 0 1 + 1)
def tsM (f : Nat → Nat) : Nat → Nat
  | 0 => 0
  | m + 1 => tsM f m ||| 2 ^ f m
def addS (D : Dt) (i : Nat) : Dt := if (tsM (D 5) (D 0 3)).testBit i = true then D else uq (uq D 5 (D 0 3) i) 0 3 (D 0 3 + 1)
def addG (D : Dt) (k : Nat) : Dt := uq D 0 2 (D 0 2 ||| 2 ^ k)
def rdIt (d : Dt) (p : Nat) (D : Dt) : Option (Nat × Dt) :=
  if d 6 p = 105 then
    (if (isN d (p + 1) 44 = true ∧ isN d (nxt d (p + 1)) 44 = true ∧ isN d (nxt d (nxt d (p + 1))) 59 = true) ∧ D 0 0 < 7 ∧ nmb d (p + 1) < 4 ∧ nmb d (nxt d (p + 1)) < 7 ∧ nmb d (nxt d (nxt d (p + 1))) ≤ 30 then some (nxt d (nxt d (nxt d (p + 1))), addI D (nmb d (p + 1)) (nmb d (nxt d (p + 1))) (nmb d (nxt d (nxt d (p + 1))))) else none)
  else if d 6 p = 98 then
    (if (isN d (p + 1) 44 = true ∧ isN d (nxt d (p + 1)) 59 = true) ∧ D 0 1 < 8 ∧ nmb d (p + 1) ≤ 15 ∧ nmb d (nxt d (p + 1)) ≤ 7 then some (nxt d (nxt d (p + 1)), addB D (nmb d (p + 1)) (nmb d (nxt d (p + 1)))) else none)
  else if d 6 p = 115 then
    (if isN d (p + 1) 59 = true ∧ nmb d (p + 1) < D 0 0 then some (nxt d (p + 1), addS D (nmb d (p + 1))) else none)
  else if d 6 p = 103 then
    (if isN d (p + 1) 59 = true ∧ nmb d (p + 1) ≤ 5 then some (nxt d (p + 1), addG D (nmb d (p + 1))) else none)
  else none
/-- all of it: the first item that is not so, -4 if none is; what is told ahead of it -/
def rdAll (d : Dt) : Nat → Nat → Dt → Int × Dt
  | 0, _, D => (-4, D)
  | r + 1, p, D => if p < dL d then (match rdIt d p D with
    | none => ((p : Int), D)
    | some eD => rdAll d r eD.1 eD.2) else (-4, D)
def D0 : Dt := fun _ _ => 0
theorem dq_e (d : Dt) (p i x : Nat) : uq d p i x p i = x := if_pos ⟨rfl, rfl⟩
theorem dq_q {p q : Nat} (d : Dt) (i x j : Nat) (h : q ≠ p) : uq d p i x q j = d q j := if_neg (fun z => h z.1)
theorem dq_j (d : Dt) (p i x j : Nat) : uq d p i x p j = if j = i then x else d p j := by
  unfold uq
  by_cases h : j = i
  · rw [if_pos ⟨rfl, h⟩, if_pos h]
  · rw [if_neg (fun z => h z.2), if_neg h]
theorem tsM_bit (f : Nat → Nat) (i : Nat) : ∀ m, (tsM f m).testBit i = true ↔ ∃ s, s < m ∧ f s = i
  | 0 => by
    refine ⟨fun h => ?_, fun ⟨s, hs, _⟩ => by omega⟩
    have : (tsM f 0).testBit i = false := Nat.zero_testBit i
    rw [this] at h
    cases h
  | m + 1 => by
    have ih := tsM_bit f i m
    show (tsM f m ||| 2 ^ f m).testBit i = true ↔ _
    rw [Nat.testBit_or, Nat.testBit_two_pow, Bool.or_eq_true, ih, decide_eq_true_eq]
    constructor
    · rintro (⟨s, hs, e⟩ | e)
      · exact ⟨s, by omega, e⟩
      · exact ⟨m, by omega, e⟩
    · rintro ⟨s, hs, e⟩
      rcases (show s < m ∨ s = m by omega) with g | g
      · exact Or.inl ⟨s, g, e⟩
      · rw [g] at e
        exact Or.inr e
theorem tsM_lt {n : Nat} {f : Nat → Nat} : ∀ m, (∀ s, s < m → f s < n) → tsM f m < 2 ^ n
  | 0, _ => Nat.two_pow_pos n
  | m + 1, h => Nat.or_lt_two_pow (tsM_lt m (fun s hs => h s (by omega))) (p2_lt (h m (by omega)))
theorem tsM_congr {f g : Nat → Nat} : ∀ m, (∀ s, s < m → f s = g s) → tsM f m = tsM g m
  | 0, _ => rfl
  | m + 1, h => by
    show tsM f m ||| 2 ^ f m = tsM g m ||| 2 ^ g m
    rw [tsM_congr m (fun s hs => h s (by omega)), h m (by omega)]
/-- what holds of seats that are told -/
def OkS (f : Nat → Nat) (m n : Nat) : Prop := (∀ s, s < m → f s < n) ∧ (∀ s t, s < m → t < m → f s = f t → s = t) ∧ fr 7 (tsM f m) + m = 7
theorem OkS.up {f : Nat → Nat} {m n k : Nat} (h : OkS f m n) (hk : n ≤ k) : OkS f m k := ⟨fun s hs => by have := h.1 s hs; omega, h.2⟩
theorem OkS.lt {f : Nat → Nat} {m n i : Nat} (h : OkS f m n) (hi : i < 7) (hb : (tsM f m).testBit i = false) : m < 7 := by
  have h3 := h.2.2
  rcases Nat.eq_zero_or_pos (fr 7 (tsM f m)) with g | g
  · rw [fr_0 hi g] at hb
    cases hb
  · omega
theorem OkS.add {f g : Nat → Nat} {m n i : Nat} (h : OkS f m n) (hn : n ≤ 7) (hi : i < n) (hb : (tsM f m).testBit i = false) (hg : ∀ s, s < m → g s = f s) (hm : g m = i) : OkS g (m + 1) n := by
  have e : tsM g (m + 1) = tsM f m ||| 2 ^ i := by
    show tsM g m ||| 2 ^ g m = _
    rw [tsM_congr m hg, hm]
  have nb : ∀ s, s < m → f s ≠ i := fun s hs z => by
    rw [(tsM_bit f i m).mpr ⟨s, hs, z⟩] at hb
    cases hb
  refine ⟨fun s hs => ?_, fun s t hs ht z => ?_, ?_⟩
  · rcases (show s < m ∨ s = m by omega) with q | q
    · rw [hg s q]; exact h.1 s q
    · rw [q, hm]; exact hi
  · rcases (show s < m ∨ s = m by omega) with q | q
    · rcases (show t < m ∨ t = m by omega) with r | r
      · rw [hg s q, hg t r] at z
        exact h.2.1 s t q r z
      · rw [hg s q, r, hm] at z
        exact absurd z (nb s q)
    · rcases (show t < m ∨ t = m by omega) with r | r
      · rw [hg t r, q, hm] at z
        exact absurd z.symm (nb t r)
      · omega
  · rw [e]
    have h1 := fr_drop (n := 7) (by omega : i < 7) hb
    have h2 := h.2.2
    have h3 := h.lt (by omega) hb
    omega
def OkR (D : Dt) : Prop := (D 0 0 ≤ 7 ∧ D 0 1 ≤ 8 ∧ D 0 2 < 64) ∧ (∀ i, i < D 0 0 → D 1 i < 4 ∧ D 2 i < 7 ∧ D 3 i ≤ 30) ∧ (∀ b, b < D 0 1 → D 4 b < 128) ∧ OkS (D 5) (D 0 3) (D 0 0)
theorem OkR.D0 : OkR D0 := ⟨⟨by decide, by decide, by decide⟩, fun i hi => absurd hi (Nat.not_lt_zero i), fun i hi => absurd hi (Nat.not_lt_zero i), fun i hi => absurd hi (Nat.not_lt_zero i), fun i _ hi => absurd hi (Nat.not_lt_zero i), by decide⟩
theorem OkR.I {D : Dt} {a b c : Nat} (h : OkR D) (hn : D 0 0 < 7) (ha : a < 4) (hb : b < 7) (hc : c ≤ 30) : OkR (addI D a b c) := by
  obtain ⟨⟨h1, h2, h3⟩, h4, h5, h6⟩ := h
  have e00 : addI D a b c 0 0 = D 0 0 + 1 := dq_e _ _ _ _
  have e0 : ∀ j, j ≠ 0 → addI D a b c 0 j = D 0 j := fun j hj => by
    unfold addI
    rw [dq_j, if_neg hj, dq_q _ _ _ _ (by decide), dq_q _ _ _ _ (by decide), dq_q _ _ _ _ (by decide)]
  have e5 : addI D a b c 5 = D 5 := funext fun j => by
    unfold addI
    rw [dq_q _ _ _ _ (by decide), dq_q _ _ _ _ (by decide), dq_q _ _ _ _ (by decide), dq_q _ _ _ _ (by decide)]
  have e4 : addI D a b c 4 = D 4 := funext fun j => by
    unfold addI
    rw [dq_q _ _ _ _ (by decide), dq_q _ _ _ _ (by decide), dq_q _ _ _ _ (by decide), dq_q _ _ _ _ (by decide)]
  have e1 : ∀ j, addI D a b c 1 j = if j = D 0 0 then a else D 1 j := fun j => by
    unfold addI
    rw [dq_q _ _ _ _ (by decide), dq_q _ _ _ _ (by decide), dq_q _ _ _ _ (by decide), dq_j]
  have e2 : ∀ j, addI D a b c 2 j = if j = D 0 0 then b else D 2 j := fun j => by
    unfold addI
    rw [dq_q _ _ _ _ (by decide), dq_q _ _ _ _ (by decide), dq_j, dq_q _ _ _ _ (by decide)]
  have e3 : ∀ j, addI D a b c 3 j = if j = D 0 0 then c else D 3 j := fun j => by
    unfold addI
    rw [dq_q _ _ _ _ (by decide), dq_j, dq_q _ _ _ _ (by decide), dq_q _ _ _ _ (by decide)]
  unfold OkR
  rw [e00, e0 1 (by decide), e0 2 (by decide), e0 3 (by decide), e5, e4]
  refine ⟨⟨by omega, h2, h3⟩, fun i hi => ?_, h5, h6.up (by omega)⟩
  rw [e1, e2, e3]
  by_cases g : i = D 0 0
  · rw [if_pos g, if_pos g, if_pos g]
    exact ⟨ha, hb, hc⟩
  · rw [if_neg g, if_neg g, if_neg g]
    exact h4 i (by omega)
theorem OkR.B {D : Dt} {a b : Nat} (h : OkR D) (hn : D 0 1 < 8) (ha : a ≤ 15) (hb : b ≤ 7) : OkR (addB D a b) := by
  obtain ⟨⟨h1, h2, h3⟩, h4, h5, h6⟩ := h
  have e01 : addB D a b 0 1 = D 0 1 + 1 := dq_e _ _ _ _
  have e0 : ∀ j, j ≠ 1 → addB D a b 0 j = D 0 j := fun j hj => by
    unfold addB
    rw [dq_j, if_neg hj, dq_q _ _ _ _ (by decide)]
  have eq : ∀ q, q ≠ 0 → q ≠ 4 → addB D a b q = D q := fun q q1 q2 => funext fun j => by
    unfold addB
    rw [dq_q _ _ _ _ q1, dq_q _ _ _ _ q2]
  have e4 : ∀ j, addB D a b 4 j = if j = D 0 1 then a + 16 * b else D 4 j := fun j => by
    unfold addB
    rw [dq_q _ _ _ _ (by decide), dq_j]
  unfold OkR
  rw [e01, e0 0 (by decide), e0 2 (by decide), e0 3 (by decide), eq 1 (by decide) (by decide), eq 2 (by decide) (by decide), eq 3 (by decide) (by decide), eq 5 (by decide) (by decide)]
  refine ⟨⟨h1, by omega, h3⟩, h4, fun j hj => ?_, h6⟩
  rw [e4]
  by_cases g : j = D 0 1
  · rw [if_pos g]; omega
  · rw [if_neg g]; exact h5 j (by omega)
theorem OkR.S {D : Dt} {i : Nat} (h : OkR D) (hi : i < D 0 0) : OkR (addS D i) := by
  unfold addS
  by_cases c : (tsM (D 5) (D 0 3)).testBit i = true
  · rw [if_pos c]
    exact h
  · rw [if_neg c]
    have c' : (tsM (D 5) (D 0 3)).testBit i = false := by simpa using c
    obtain ⟨⟨h1, h2, h3⟩, h4, h5, h6⟩ := h
    have e03 : uq (uq D 5 (D 0 3) i) 0 3 (D 0 3 + 1) 0 3 = D 0 3 + 1 := dq_e _ _ _ _
    have e0 : ∀ j, j ≠ 3 → uq (uq D 5 (D 0 3) i) 0 3 (D 0 3 + 1) 0 j = D 0 j := fun j hj => by
      rw [dq_j, if_neg hj, dq_q _ _ _ _ (by decide)]
    have eq : ∀ q, q ≠ 0 → q ≠ 5 → uq (uq D 5 (D 0 3) i) 0 3 (D 0 3 + 1) q = D q := fun q q1 q2 => funext fun j => by
      rw [dq_q _ _ _ _ q1, dq_q _ _ _ _ q2]
    have e5 : ∀ j, uq (uq D 5 (D 0 3) i) 0 3 (D 0 3 + 1) 5 j = if j = D 0 3 then i else D 5 j := fun j => by
      rw [dq_q _ _ _ _ (by decide), dq_j]
    unfold OkR
    rw [e03, e0 0 (by decide), e0 1 (by decide), e0 2 (by decide), eq 1 (by decide) (by decide), eq 2 (by decide) (by decide), eq 3 (by decide) (by decide), eq 4 (by decide) (by decide)]
    exact ⟨⟨h1, h2, h3⟩, h4, h5, h6.add h1 hi c' (fun s hs => by rw [e5, if_neg (by omega)]) (by rw [e5, if_pos rfl])⟩
theorem OkR.G {D : Dt} {k : Nat} (h : OkR D) (hk : k ≤ 5) : OkR (addG D k) := by
  obtain ⟨⟨h1, h2, h3⟩, h4, h5, h6⟩ := h
  have e02 : addG D k 0 2 = D 0 2 ||| 2 ^ k := dq_e _ _ _ _
  have e0 : ∀ j, j ≠ 2 → addG D k 0 j = D 0 j := fun j hj => by
    unfold addG
    rw [dq_j, if_neg hj]
  have eq : ∀ q, q ≠ 0 → addG D k q = D q := fun q q1 => funext fun j => by
    unfold addG
    rw [dq_q _ _ _ _ q1]
  unfold OkR
  rw [e02, e0 0 (by decide), e0 1 (by decide), e0 3 (by decide), eq 1 (by decide), eq 2 (by decide), eq 3 (by decide), eq 4 (by decide), eq 5 (by decide)]
  exact ⟨⟨h1, h2, Nat.or_lt_two_pow (n := 6) h3 (p2_lt (by omega : k < 6))⟩, h4, h5, h6⟩
theorem rdIt_ok {d D D' : Dt} {p e : Nat} (h : OkR D) (hr : rdIt d p D = some (e, D')) : OkR D' ∧ p < e := by
  unfold rdIt at hr
  have l1 : ∀ j, j < nxt d j := fun j => by unfold nxt; omega
  have a1 := l1 (p + 1)
  have a2 := l1 (nxt d (p + 1))
  have a3 := l1 (nxt d (nxt d (p + 1)))
  by_cases c1 : d 6 p = 105
  · rw [if_pos c1] at hr
    by_cases c : (isN d (p + 1) 44 = true ∧ isN d (nxt d (p + 1)) 44 = true ∧ isN d (nxt d (nxt d (p + 1))) 59 = true) ∧ D 0 0 < 7 ∧ nmb d (p + 1) < 4 ∧ nmb d (nxt d (p + 1)) < 7 ∧ nmb d (nxt d (nxt d (p + 1))) ≤ 30
    · rw [if_pos c, Option.some.injEq, Prod.mk.injEq] at hr
      obtain ⟨r1, r2⟩ := hr
      rw [← r1, ← r2]
      exact ⟨h.I c.2.1 c.2.2.1 c.2.2.2.1 c.2.2.2.2, by omega⟩
    · rw [if_neg c] at hr
      cases hr
  · rw [if_neg c1] at hr
    by_cases c2 : d 6 p = 98
    · rw [if_pos c2] at hr
      by_cases c : (isN d (p + 1) 44 = true ∧ isN d (nxt d (p + 1)) 59 = true) ∧ D 0 1 < 8 ∧ nmb d (p + 1) ≤ 15 ∧ nmb d (nxt d (p + 1)) ≤ 7
      · rw [if_pos c, Option.some.injEq, Prod.mk.injEq] at hr
        obtain ⟨r1, r2⟩ := hr
        rw [← r1, ← r2]
        exact ⟨h.B c.2.1 c.2.2.1 c.2.2.2, by omega⟩
      · rw [if_neg c] at hr
        cases hr
    · rw [if_neg c2] at hr
      by_cases c3 : d 6 p = 115
      · rw [if_pos c3] at hr
        by_cases c : isN d (p + 1) 59 = true ∧ nmb d (p + 1) < D 0 0
        · rw [if_pos c, Option.some.injEq, Prod.mk.injEq] at hr
          obtain ⟨r1, r2⟩ := hr
          rw [← r1, ← r2]
          exact ⟨h.S c.2, by omega⟩
        · rw [if_neg c] at hr
          cases hr
      · rw [if_neg c3] at hr
        by_cases c4 : d 6 p = 103
        · rw [if_pos c4] at hr
          by_cases c : isN d (p + 1) 59 = true ∧ nmb d (p + 1) ≤ 5
          · rw [if_pos c, Option.some.injEq, Prod.mk.injEq] at hr
            obtain ⟨r1, r2⟩ := hr
            rw [← r1, ← r2]
            exact ⟨h.G c.2, by omega⟩
          · rw [if_neg c] at hr
            cases hr
        · rw [if_neg c4] at hr
          cases hr
