/-! THE STORE d of mathematical values, and what class and reference hold of it -/
abbrev Dt : Type := Nat → Nat → Nat
def uq (d : Dt) (p i x : Nat) : Dt := fun q j => if q = p ∧ j = i then x else d q j
def rw1 (d : Dt) (p : Nat) (f : Nat → Nat) : Dt := fun q j => if q = p then f j else d q j
def dn (d : Dt) : Nat := d 0 0
def dB (d : Dt) : Nat := d 0 1
def dg (d : Dt) : Nat := d 0 2
def db (d : Dt) : Nat := d 0 3
def dL (d : Dt) : Nat := d 0 4
def dh (d : Dt) : Nat := d 0 5
def du (d : Dt) : Nat := d 0 6
def dk (d : Dt) : Nat := d 0 7
def plD (d : Dt) : Nat → Nat := plS (dn d) (d 1) (d 2) (d 4) (d 5) (dg d) (db d)
def ntD (d : Dt) : Nat := ntS (dn d) (d 1) (d 2) (d 4) (d 5) (dg d) (db d) (dB d)
def whD (d : Dt) : Nat := whS (dn d) (d 1) (d 2) (d 4) (d 5) (dg d) (db d) (dB d)
def OkD (d : Dt) : Prop := (0 < dn d ∧ dn d ≤ 7 ∧ dB d ≤ 8 ∧ dg d < 64 ∧ db d < 2 ^ dn d ∧ dL d ≤ 200 ∧ dh d ≤ 8 ∧ du d ≤ 8 ∧ dk d ≤ 2) ∧ (∀ i, i < dn d → d 1 i < 4 ∧ d 2 i < dn d ∧ d 3 i ≤ 30) ∧ (∀ b, b < dB d → d 4 b < 2 ^ dn d) ∧ PermS (dn d) (d 5) ∧ (∀ j, j < dL d → 32 ≤ d 6 j ∧ d 6 j ≤ 126) ∧ (∀ j, j < dh d → d 7 j < dn d ∧ d 8 j < dB d ∧ d 9 j < 2) ∧ (∀ j, j < du d → PermS (dn d) (d (20 + j)) ∧ d (20 + j) 7 < 2 ^ dn d) ∧ (∀ j, j < dk d → PermS (dn d) (d (30 + j)) ∧ d (30 + j) 7 < 2 ^ dn d)
-- what the class holds
def BandI (σ : Sg) (d : Dt) : Prop := BandC σ (dn d) (dB d) (d 1) (d 2) (d 4) ∧ (∀ i, i < dn d → σ 23 i = ((d 3 i : Nat) : Int)) ∧ σ 20 8 = ((dg d : Nat) : Int)
def SeatI (σ : Sg) (d : Dt) : Prop := Rep σ 1 (dn d) (d 5) ∧ σ 0 3 = ((db d : Nat) : Int)
def NowI (σ : Sg) (d : Dt) : Prop := EvB σ 26 (dn d) (d 1) (d 2) (d 4) (d 5) (dg d) (db d) (dB d)
def TextI (σ : Sg) (d : Dt) : Prop := σ 11 1 = ((dL d : Nat) : Int) ∧ ∀ j, j < dL d → σ 12 j = ((d 6 j : Nat) : Int)
def HeardI (σ : Sg) (d : Dt) : Prop := σ 0 13 = ((dh d : Nat) : Int) ∧ ∀ j, j < dh d → σ 4 j = ((d 7 j : Nat) : Int) ∧ σ 5 j = ((d 8 j : Nat) : Int) ∧ σ 6 j = ((d 9 j : Nat) : Int)
def KeptI (σ : Sg) (d : Dt) : Prop := σ 0 16 = ((dk d : Nat) : Int) ∧ dk d ≤ 2 ∧ ∀ j, j < dk d → Rep σ (8 + j) (dn d) (d (30 + j)) ∧ σ 10 j = ((d (30 + j) 7 : Nat) : Int)
/-- a step back: c is 64 + 8a + b, or who was bribed -/
def baS (c : Nat) (ss : Nat → Nat) : Nat → Nat := if 64 ≤ c then swF ss (c / 8 % 8) (c % 8) else ss
def baB (c bb : Nat) : Nat := if 64 ≤ c then bb else bb ^^^ 2 ^ c
/-- the seats, the bribes behind the j-th step -/
def nxS (d : Dt) (j : Nat) : Nat → Nat := if j + 1 < du d then d (20 + (j + 1)) else d 5
def nxB (d : Dt) (j : Nat) : Nat := if j + 1 < du d then d (20 + (j + 1)) 7 else db d
def codeOk (n c : Nat) : Prop := c < n ∨ (64 ≤ c ∧ c / 8 % 8 < n ∧ c % 8 < n ∧ c < 128)
def UndoI (σ : Sg) (d : Dt) : Prop := σ 0 9 = ((du d : Nat) : Int) ∧ ∀ j, j < du d → ∃ c, codeOk (dn d) c ∧ σ 3 j = ((c : Nat) : Int) ∧ (∀ i, i < dn d → d (20 + j) i = baS c (nxS d j) i) ∧ d (20 + j) 7 = baB c (nxB d j)
-- the survey
def ntK (d : Dt) (k : Nat) : Nat := ntS (dn d) (d 1) (d 2) (d 4) (pmF (dn d) k) (dg d) (db d) (dB d)
def whK (d : Dt) (k : Nat) : Nat := whS (dn d) (d 1) (d 2) (d 4) (pmF (dn d) k) (dg d) (db d) (dB d)
def plK (d : Dt) (k : Nat) : Nat → Nat := plS (dn d) (d 1) (d 2) (d 4) (pmF (dn d) k) (dg d) (db d)
def alK (d : Dt) (k : Nat) : Bool := (List.range (dB d)).all fun b => plK d k b == plD d b
-- rings of a seating against now
/-- where i sits, among the first k seats -/
def sof (ss : Nat → Nat) (i : Nat) : Nat → Nat
  | 0 => 0
  | k + 1 => if ss k = i then k else sof ss i k
def stepF (n : Nat) (ss f : Nat → Nat) : Nat → Nat := fun s => sof ss (f s) n
def ringW (n : Nat) (π : Nat → Nat) : Nat → Nat → Nat → Nat
  | 0, seen, _ => seen
  | k + 1, seen, at0 => if seen.testBit at0 = true then seen else ringW n π k (seen ||| 2 ^ at0) (π at0)
def rings (n : Nat) (π : Nat → Nat) : Nat → Nat × Nat
  | 0 => (0, 0)
  | s + 1 => ((rings n π s).1 + (if (rings n π s).2.testBit s = true then 0 else 1), ringW n π n (rings n π s).2 s)
def farK (d : Dt) (k : Nat) : Nat := dn d - (rings (dn d) (stepF (dn d) (d 5) (pmF (dn d) k)) (dn d)).1
/-- how many of the first k seatings are so -/
def cnt (P : Nat → Bool) : Nat → Nat
  | 0 => 0
  | k + 1 => cnt P k + (if P k = true then 1 else 0)
def most (f : Nat → Nat) : Nat → Int × Nat
  | 0 => (-1, 0)
  | k + 1 => if (most f k).1 < (f k : Int) then ((f k : Int), k) else most f k
def fewest (P : Nat → Bool) (f : Nat → Nat) : Nat → Int
  | 0 => -4
  | k + 1 => if P k = true then (if fewest P f k = -4 ∨ (f k : Int) < fewest P f k then (f k : Int) else fewest P f k) else fewest P f k
def SurvK (σ : Sg) (d : Dt) (k : Nat) : Prop :=
  σ 29 2 = ((cnt (fun j => whK d j == dB d) k : Nat) : Int) ∧ σ 29 3 = ((cnt (alK d) k : Nat) : Int) ∧ σ 29 4 = fewest (fun j => whK d j == dB d) (farK d) k ∧ σ 29 5 = (most (ntK d) k).1 ∧ (0 < k → Rep σ 30 (dn d) (pmF (dn d) (most (ntK d) k).2)) ∧ ∀ v, v ≤ 56 → σ 31 v = ((cnt (fun j => ntK d j == v) k : Nat) : Int)
def SurvI (σ : Sg) (d : Dt) : Prop := σ 29 0 = 0 ∨ (σ 29 0 = 1 ∧ σ 29 1 = ((fac (dn d) : Nat) : Int) ∧ SurvK σ d (fac (dn d)))
def InvC (σ : Sg) (d : Dt) : Prop := BandI σ d ∧ SeatI σ d ∧ NowI σ d ∧ TextI σ d ∧ HeardI σ d ∧ KeptI σ d ∧ UndoI σ d ∧ SurvI σ d
-- what the reference holds
def InvM (σ : Sg) (d : Dt) : Prop :=
  ToldM σ (dn d) (dB d) (d 2) (d 4) ∧ (∀ i, i < dn d → σ 42 (4 + i) = ((d 1 i : Nat) : Int) ∧ σ 42 (18 + i) = ((d 3 i : Nat) : Int)) ∧ σ 42 3 = ((dg d : Nat) : Int) ∧
  ((∀ i, i < dn d → σ 44 i = ((d 5 i : Nat) : Int)) ∧ σ 44 7 = ((db d : Nat) : Int)) ∧
  (σ 40 1 = ((dL d : Nat) : Int) ∧ ∀ j, j < dL d → σ 41 j = ((d 6 j : Nat) : Int)) ∧
  (σ 40 6 = ((du d : Nat) : Int) ∧ ∀ j, j < du d → (∀ i, i < dn d → σ 45 (8 * j + i) = ((d (20 + j) i : Nat) : Int)) ∧ σ 45 (8 * j + 7) = ((d (20 + j) 7 : Nat) : Int)) ∧
  (σ 40 8 = ((dk d : Nat) : Int) ∧ ∀ j, j < dk d → (∀ i, i < dn d → σ 46 (8 * j + i) = ((d (30 + j) i : Nat) : Int)) ∧ σ 46 (8 * j + 7) = ((d (30 + j) 7 : Nat) : Int)) ∧
  (σ 40 10 = ((dh d : Nat) : Int) ∧ ∀ j, j < dh d → σ 47 j = ((100 * d 7 j + 10 * d 8 j + d 9 j : Nat) : Int))
theorem InvM.kept {σ σ' : Sg} {d : Dt} (h : InvM σ d) (h1 : σ' 41 = σ 41) (h2 : σ' 42 = σ 42) (h4 : σ' 44 = σ 44) (h5 : σ' 45 = σ 45) (h6 : σ' 46 = σ 46) (h7 : σ' 47 = σ 47) (f1 : σ' 40 1 = σ 40 1) (f6 : σ' 40 6 = σ 40 6) (f8 : σ' 40 8 = σ 40 8) (f10 : σ' 40 10 = σ 40 10) : InvM σ' d := by
  unfold InvM ToldM
  rw [h1, h2, h4, h5, h6, h7, f1, f6, f8, f10]
  exact h
theorem InvC.kept {σ σ' : Sg} {d : Dt} (h : InvC σ d) (hq : ∀ q, q < 40 → σ' q = σ q) : InvC σ' d := by
  have h10 : ∀ j, j < 2 → σ' (8 + j) = σ (8 + j) := fun j hj => hq _ (by omega)
  obtain ⟨⟨a1, a2, a3⟩, ⟨b1, b2⟩, ⟨c1, c2, c3, c4⟩, ⟨e1, e2⟩, ⟨f1, f2⟩, ⟨g1, g0, g2⟩, ⟨u1, u2⟩, s⟩ := h
  refine ⟨⟨a1.kept (hq _ (by decide)) (hq _ (by decide)) (hq _ (by decide)) (hq _ (by decide)), fun i hi => by rw [hq _ (by decide)]; exact a2 i hi, by rw [hq _ (by decide)]; exact a3⟩, ⟨b1.kept (hq _ (by decide)), by rw [hq _ (by decide)]; exact b2⟩, ⟨by rw [hq _ (by decide)]; exact c1, by rw [hq _ (by decide)]; exact c2, fun j hj => by rw [hq _ (by decide)]; exact c3 j hj, fun i hi => by rw [hq _ (by decide)]; exact c4 i hi⟩, ⟨by rw [hq _ (by decide)]; exact e1, fun j hj => by rw [hq _ (by decide)]; exact e2 j hj⟩, ⟨by rw [hq _ (by decide)]; exact f1, fun j hj => by rw [hq 4 (by decide), hq 5 (by decide), hq 6 (by decide)]; exact f2 j hj⟩, ⟨by rw [hq _ (by decide)]; exact g1, g0, fun j hj => ?_⟩, ⟨by rw [hq _ (by decide)]; exact u1, fun j hj => by rw [hq 3 (by decide)]; exact u2 j hj⟩, ?_⟩
  · obtain ⟨x, y⟩ := g2 j hj
    refine ⟨?_, by rw [hq 10 (by decide)]; exact y⟩
    exact x.kept (h10 j (by omega))
  · unfold SurvI SurvK
    rw [hq 29 (by decide), hq 31 (by decide)]
    rcases s with s | ⟨s1, s2, s3, s4, s5, s6, s7, s8⟩
    · exact Or.inl s
    · exact Or.inr ⟨s1, s2, s3, s4, s5, s6, fun hk => (s7 hk).kept (hq _ (by decide)), s8⟩

/-- x lies in an int -/
def InR (x : Int) : Prop := -2147483648 ≤ x ∧ x < 2147483648
theorem wr_in {x : Int} (h : InR x) : wr x = x := wr_id h.1 h.2
theorem EvB_127 {σ : Sg} {e n B g bb : Nat} {kk mm aa ss : Nat → Nat} (hn : n ≤ 7) (ha : ∀ b, b < B → aa b < 2 ^ n) (h : EvB σ e n kk mm (fun j => aa j &&& 127) ss g bb B) : EvB σ e n kk mm aa ss g bb B := by
  have hc : ∀ j, j < B → (fun j => aa j &&& 127) j = aa j := fun j hj => and_127 hn (ha j hj)
  obtain ⟨h1, h2, h3, h4⟩ := h
  refine ⟨?_, ?_, fun j hj => ?_, h4⟩
  · rw [h1, ntS_congr (fun _ _ => rfl) (fun _ _ => rfl) hc (fun _ _ => rfl) B (Nat.le_refl _)]
  · rw [h2, whS_congr (fun _ _ => rfl) (fun _ _ => rfl) hc (fun _ _ => rfl) B (Nat.le_refl _)]
  · rw [h3 j hj, plS_congr (fun _ _ => rfl) (fun _ _ => rfl) hc (fun _ _ => rfl) j hj]
theorem andn_0 (a : Nat) : andn a 0 = a := by
  apply Nat.eq_of_testBit_eq
  intro i
  rw [andn_bit]
  simp
-- numbers that are asked for, in class and reference
theorem isI_c {d : Dt} {σ : Sg} {x : Int} (hB : BandI σ d) (hx : InR x) : Cal 37 [vR 0, vI x] σ = some (vI (if 0 ≤ x ∧ x < (dn d : Int) then 1 else 0), σ) := by
  show Run 37 0 _ _ _ = _
  refine (q37_0 x σ).trans ?_
  have hn := hB.1.2.1
  rw [hB.1.1, wr_in hx, wr_id (x := (dn d : Int)) (by omega) (by omega), if_pos (Or.inl rfl), if_pos (Or.inr rfl)]
  by_cases c0 : x < 0
  · rw [if_pos c0, if_neg (by omega)]
  · rw [if_neg c0]
    by_cases c1 : x < (dn d : Int)
    · rw [if_pos c1, if_pos (by omega)]
    · rw [if_neg c1, if_neg (by omega)]
theorem isB_c {d : Dt} {σ : Sg} {x : Int} (hB : BandI σ d) (hx : InR x) : Cal 41 [vR 0, vI x] σ = some (vI (if 0 ≤ x ∧ x < (dB d : Int) then 1 else 0), σ) := by
  show Run 41 0 _ _ _ = _
  refine (q41_0 x σ).trans ?_
  have hn := hB.1.2.2.2.1
  rw [hB.1.2.2.1, wr_in hx, wr_id (x := (dB d : Int)) (by omega) (by omega), if_pos (Or.inl rfl), if_pos (Or.inr rfl)]
  by_cases c0 : x < 0
  · rw [if_pos c0, if_neg (by omega)]
  · rw [if_neg c0]
    by_cases c1 : x < (dB d : Int)
    · rw [if_pos c1, if_pos (by omega)]
    · rw [if_neg c1, if_neg (by omega)]
theorem in_m {x a b : Int} {σ : Sg} (hx : InR x) (ha : InR a) (hb : InR b) : Cal 79 [vI x, vI a, vI b] σ = some (vI (if a ≤ x ∧ x ≤ b then 1 else 0), σ) := by
  show Run 79 0 _ _ _ = _
  refine (q79_0 x a b σ).trans ?_
  rw [wr_in hx, wr_in ha, wr_in hb, if_pos (Or.inl rfl), if_pos (Or.inr rfl)]
  by_cases c0 : x < a
  · rw [if_pos c0, if_neg (by omega)]
  · rw [if_neg c0]
    by_cases c1 : b < x
    · rw [if_pos c1, if_neg (by omega)]
    · rw [if_neg c1, if_pos (by omega)]
theorem ite_01 (c : Prop) [Decidable c] : (if c then (1 : Int) else 0) = 0 ∨ (if c then (1 : Int) else 0) = 1 := by
  by_cases h : c <;> simp [h]
theorem isI_m {d : Dt} {σ : Sg} {x : Int} (hM : InvM σ d) (hx : InR x) : Cal 80 [vR 40, vI x] σ = some (vI (if 0 ≤ x ∧ x < (dn d : Int) then 1 else 0), σ) := by
  show Run 80 0 _ _ _ = _
  refine (q80_0 x σ).trans ?_
  have hn := hM.1.2.1
  rw [wr_0, if_pos (by omega), Int.toNat_zero, hM.1.1, in_m hx ⟨by omega, by omega⟩ ⟨by omega, by omega⟩, kcI_s, if_pos (ite_01 _)]
  by_cases c : 0 ≤ x ∧ x < (dn d : Int)
  · rw [if_pos c, if_pos (by omega)]
  · rw [if_neg c, if_neg (by omega)]
theorem isB_m {d : Dt} {σ : Sg} {x : Int} (hM : InvM σ d) (hx : InR x) : Cal 81 [vR 40, vI x] σ = some (vI (if 0 ≤ x ∧ x < (dB d : Int) then 1 else 0), σ) := by
  show Run 81 0 _ _ _ = _
  refine (q81_0 x σ).trans ?_
  have hn := hM.1.2.2.2.1
  rw [wr_1, if_pos (by omega), show (1 : Int).toNat = 1 from rfl, hM.1.2.2.1, in_m hx ⟨by omega, by omega⟩ ⟨by omega, by omega⟩, kcI_s, if_pos (ite_01 _)]
  by_cases c : 0 ≤ x ∧ x < (dB d : Int)
  · rw [if_pos c, if_pos (by omega)]
  · rw [if_neg c, if_neg (by omega)]
/-- what a reference's call may touch beside its own -/
def FrM (σ σ' : Sg) : Prop := ∀ q, q < 40 ∨ 53 ≤ q → σ' q = σ q
def FrC (σ σ' : Sg) : Prop := ∀ q, 40 ≤ q → σ' q = σ q
theorem FrM.rf (σ : Sg) : FrM σ σ := fun _ _ => rfl
theorem FrC.rf (σ : Sg) : FrC σ σ := fun _ _ => rfl
theorem FrM.tr {a b c : Sg} (h : FrM a b) (k : FrM b c) : FrM a c := fun q hq => (k q hq).trans (h q hq)
theorem FrC.tr {a b c : Sg} (h : FrC a b) (k : FrC b c) : FrC a c := fun q hq => (k q hq).trans (h q hq)
-- asItIs()
theorem asit_loop {d : Dt} (hO : OkD d) : ∀ (e k : Nat) (σ : Sg), k + e = 7 → InvM σ d → (∀ i, i < k → σ 48 i = σ 44 i ∧ σ 50 i = σ 42 (4 + i)) →
    ∃ σ', Cal 92 [vR 40] σ = Cal 92 [vR 40] σ ∧ Run 92 2 [vR 40, vI k] [] σ = some (vI 0, σ') ∧ (∀ q, q ≠ 40 → q ≠ 48 → q ≠ 50 → σ' q = σ q) ∧ (∀ j, j ≠ 16 → j ≠ 17 → j ≠ 18 → σ' 40 j = σ 40 j) ∧ GoIn σ' (dn d) (d 1) (d 5) (dg d) (db d) 0 ∧ InvM σ' d
  | 0, k, σ, h, hM, hR => by
    have hk : k = 7 := by omega
    subst hk
    obtain ⟨m1, m2, m3, ⟨m4, m5⟩, m6, m7, m8, m9⟩ := hM
    have hp7 := p2_7 hO.1.2.1
    have l1 := hO.1.2.2.2.2.1
    have l2 := hO.1.2.2.2.1
    have hn := hO.1.2.1
    have e0 := q92_2 ((7 : Nat) : Int) σ
    rw [wr_id (x := ((7 : Nat) : Int)) (by omega) (by omega), wr_id (x := 7) (by omega) (by omega), if_neg (by omega), if_pos (by omega), wr_id (x := 3) (by omega) (by omega), if_pos (by omega), show (7 : Int).toNat = 7 from rfl, show (3 : Int).toNat = 3 from rfl, m5, up_p _ _ _ (by decide), m3] at e0
    refine ⟨_, rfl, e0, fun q q1 q2 q3 => by rw [up_ne q1, up_ne q1, up_ne q1], fun j j1 j2 j3 => by simp only [up_j]; simp [j1, j2, j3], ?_, ?_⟩
    · refine ⟨fun i hi => ?_, fun i hi => ?_, by simp [up_at], l1, by simp [up_at], by omega, by simp [up_at], by decide⟩
      · rw [up_p _ _ _ (by decide), up_p _ _ _ (by decide), up_p _ _ _ (by decide), (hR i (by omega)).1]
        exact m4 i hi
      · rw [up_p _ _ _ (by decide), up_p _ _ _ (by decide), up_p _ _ _ (by decide), (hR i (by omega)).2]
        exact ⟨(m2 i hi).1, (hO.2.1 i hi).1⟩
    · have hM : InvM σ d := ⟨m1, m2, m3, ⟨m4, m5⟩, m6, m7, m8, m9⟩
      refine hM.kept ?_ ?_ ?_ ?_ ?_ ?_ ?_ ?_ ?_ ?_
      all_goals first | (rw [up_ne (by decide), up_ne (by decide), up_ne (by decide)]; done) | simp [up_at]
  | e + 1, k, σ, h, hM, hR => by
    have hk : k < 7 := by omega
    have hM1 : InvM (up (up σ 48 k (σ 44 k)) 50 k (up σ 48 k (σ 44 k) 42 (4 + k))) d := by
      refine hM.kept ?_ ?_ ?_ ?_ ?_ ?_ ?_ ?_ ?_ ?_
      all_goals first | (rw [up_ne (by decide), up_ne (by decide)]; done) | simp [up_at]
    obtain ⟨σ', -, r1, r2, r3, r4, r5⟩ := asit_loop hO e (k + 1) (up (up σ 48 k (σ 44 k)) 50 k (up σ 48 k (σ 44 k) 42 (4 + k))) (by omega) hM1 (fun i hi => by
      rw [up_p (q := 48) _ _ _ (by decide), up_j, up_p (q := 44) _ _ _ (by decide), up_p (q := 44) _ _ _ (by decide), up_j, up_p (q := 42) _ _ _ (by decide), up_p (q := 42) _ _ _ (by decide), up_p (q := 50) _ _ _ (by decide), up_p (q := 42) _ _ _ (by decide)]
      by_cases c : i = k
      · simp [c]
      · simp [c]
        exact hR i (by omega))
    refine ⟨σ', rfl, ?_, fun q q1 q2 q3 => by rw [r2 q q1 q2 q3, up_ne q3, up_ne q2], fun j j1 j2 j3 => by rw [r3 j j1 j2 j3, up_p _ _ _ (by decide), up_p _ _ _ (by decide)], r4, r5⟩
    have e4 : (4 + (k : Int)) = ((4 + k : Nat) : Int) := by omega
    rw [q92_2, e4, wr_id (x := (k : Int)) (by omega) (by omega), wr_id (x := 7) (by omega) (by omega), wr_id (x := ((4 + k : Nat) : Int)) (by omega) (by omega), if_pos (by omega), if_pos (by omega), if_pos (by omega), if_pos (by omega), if_pos (by omega), toN, toN]
    exact r1
theorem asit {d : Dt} {σ : Sg} (hO : OkD d) (hM : InvM σ d) : ∃ σ', Cal 92 [vR 40] σ = some (vI 0, σ') ∧ (∀ q, q ≠ 40 → q ≠ 48 → q ≠ 50 → σ' q = σ q) ∧ GoIn σ' (dn d) (d 1) (d 5) (dg d) (db d) 0 ∧ InvM σ' d := by
  obtain ⟨σ', -, r1, r2, r3, r4, r5⟩ := asit_loop hO 7 0 σ (by omega) hM (fun i hi => by omega)
  exact ⟨σ', (q92_0 σ).trans r1, r2, r4, r5⟩
theorem go_inv {d : Dt} {σ σ' : Sg} (hM : InvM σ d) (f1 : ∀ q, q ≠ 40 → q ≠ 49 → q ≠ 51 → σ' q = σ q) (f2 : ∀ j, j ≠ 19 → σ' 40 j = σ 40 j) : InvM σ' d := hM.kept (f1 _ (by decide) (by decide) (by decide)) (f1 _ (by decide) (by decide) (by decide)) (f1 _ (by decide) (by decide) (by decide)) (f1 _ (by decide) (by decide) (by decide)) (f1 _ (by decide) (by decide) (by decide)) (f1 _ (by decide) (by decide) (by decide)) (f2 _ (by decide)) (f2 _ (by decide)) (f2 _ (by decide)) (f2 _ (by decide))
/-- asItIs(), goes(): what is played now -/
theorem now_m {d : Dt} {σ : Sg} (hO : OkD d) (hM : InvM σ d) : ∃ σ1 σ2, Cal 92 [vR 40] σ = some (vI 0, σ1) ∧ Cal 95 [vR 40] σ1 = some (vI ((whD d : Nat) : Int), σ2) ∧ GoB σ2 (dn d) (d 1) (d 2) (d 4) (d 5) (dg d) (db d) (dB d) ∧ GoIn σ2 (dn d) (d 1) (d 5) (dg d) (db d) 0 ∧ InvM σ2 d ∧ FrM σ σ2 := by
  obtain ⟨σ1, r1, r2, r3, r4⟩ := asit hO hM
  have e0 : (fun j => andn (d 4 j) 0) = d 4 := funext fun j => andn_0 _
  obtain ⟨σ2, s1, s2, s3, s4⟩ := go_all r4.1 r3 hO.2.2.2.1 hO.1.1
  rw [e0] at s1 s4
  exact ⟨σ1, σ2, r1, s1, s4, r3.kept (s2 _ (by decide) (by decide) (by decide)) (s2 _ (by decide) (by decide) (by decide)) (s3 _ (by decide)) (s3 _ (by decide)) (s3 _ (by decide)), go_inv r4 s2 s3, fun q hq => by rw [s2 q (by omega) (by omega) (by omega), r2 q (by omega) (by omega) (by omega)]⟩
