/-! change, bribe, undo, keep, back, in the reference -/
theorem sh_loop : ∀ (r k : Nat) (σ : Sg), k + r = 56 → ∃ σ', Run 104 11 [vR 40, vI k] [] σ = Run 104 50 [vR 40, vI 0] [] (up σ' 40 6 ((σ' 40 6) - 1)) ∧ (∀ q, q ≠ 45 → σ' q = σ q) ∧ (∀ i, k ≤ i → i < 56 → σ' 45 i = σ 45 (i + 8)) ∧ (∀ i, (i < k ∨ 56 ≤ i) → σ' 45 i = σ 45 i)
  | 0, k, σ, h => by
    have w56 : wr 56 = 56 := by decide
    refine ⟨σ, ?_, fun _ _ => rfl, fun i h1 h2 => by omega, fun _ _ => rfl⟩
    rw [q104_11, w56, wr_id (by omega) (by omega), if_neg (by omega)]
  | r + 1, k, σ, h => by
    have w56 : wr 56 = 56 := by decide
    obtain ⟨σ', r1, r2, r3, r4⟩ := sh_loop r (k + 1) (up σ 45 k (σ 45 (k + 8))) (by omega)
    refine ⟨σ', ?_, fun q hq => (r2 q hq).trans (up_ne hq), fun i h1 h2 => ?_, fun i hi => ?_⟩
    · rw [q104_11, w56, show ((k : Int) + 8) = ((k + 8 : Nat) : Int) by omega, wr_id (x := (k : Int)) (by omega) (by omega), wr_id (x := ((k + 8 : Nat) : Int)) (by omega) (by omega), if_pos (by omega), if_pos (by omega), if_pos (by omega), toN, toN]
      exact r1
    · rcases Nat.eq_or_lt_of_le h1 with q | q
      · subst q
        rw [r4 k (Or.inl (by omega)), up_e]
      · rw [r3 i q h2, up_j, if_neg (by omega)]
    · rw [r4 i (by omega), up_j, if_neg (by omega)]
theorem kc_loop {u : Nat} (hu : u < 8) : ∀ (r k : Nat) (σ : Sg), k + r = 8 → σ 40 6 = (u : Int) → ∃ σ', Run 104 50 [vR 40, vI k] [] σ = some (vI 0, up σ' 40 6 ((u : Int) + 1)) ∧ (∀ q, q ≠ 45 → σ' q = σ q) ∧ (∀ i, k ≤ i → i < 8 → σ' 45 (8 * u + i) = σ 44 i) ∧ (∀ i, (i < 8 * u + k ∨ 8 * u + 8 ≤ i) → σ' 45 i = σ 45 i)
  | 0, k, σ, h, h6 => by
    have w8 : wr 8 = 8 := by decide
    refine ⟨σ, ?_, fun _ _ => rfl, fun i h1 h2 => by omega, fun _ _ => rfl⟩
    rw [q104_50, w8, wr_id (by omega) (by omega), if_neg (by omega), h6]
  | r + 1, k, σ, h, h6 => by
    have w8 : wr 8 = 8 := by decide
    obtain ⟨σ', r1, r2, r3, r4⟩ := kc_loop hu r (k + 1) (up σ 45 (8 * u + k) (σ 44 k)) (by omega) (by rw [up_p _ _ _ (by decide)]; exact h6)
    refine ⟨σ', ?_, fun q hq => (r2 q hq).trans (up_ne hq), fun i h1 h2 => ?_, fun i hi => ?_⟩
    · rw [q104_50, w8, h6, show (8 * (u : Int) + (k : Int)) = ((8 * u + k : Nat) : Int) by omega, wr_id (x := (k : Int)) (by omega) (by omega), wr_id (x := ((8 * u + k : Nat) : Int)) (by omega) (by omega), if_pos (by omega), if_pos (by omega), if_pos (by omega), toN, toN]
      exact r1
    · rcases Nat.eq_or_lt_of_le h1 with q | q
      · subst q
        rw [r4 _ (Or.inl (by omega)), up_e]
      · rw [r3 i q h2, up_p _ _ _ (by decide)]
    · rw [r4 i (by omega), up_j, if_neg (by omega)]
/-- the reference's past, of the store d -/
def PastM (σ : Sg) (d : Dt) : Prop := σ 40 6 = ((du d : Nat) : Int) ∧ ∀ j, j < du d → (∀ i, i < dn d → σ 45 (8 * j + i) = ((d (20 + j) i : Nat) : Int)) ∧ σ 45 (8 * j + 7) = ((d (20 + j) 7 : Nat) : Int)
theorem m_keeps {d : Dt} {σ : Sg} (hO : OkD d) (hM : InvM σ d) : ∃ σ', Cal 104 [vR 40] σ = some (vI 0, σ') ∧ (∀ q, q ≠ 40 → q ≠ 45 → σ' q = σ q) ∧ (∀ j, j ≠ 6 → σ' 40 j = σ 40 j) ∧ PastM σ' (pushD d) := by
  have hn := hO.1.2.1
  have hu := hO.1.2.2.2.2.2.2.2.1
  have w8 : wr 8 = 8 := by decide
  obtain ⟨m1, m2, m3, ⟨m4, m4'⟩, m5, ⟨m6, m6'⟩, m7, m8⟩ := hM
  have e0 : Cal 104 [vR 40] σ = _ := q104_0 σ
  have en : dn (pushD d) = dn d := pushD_0 (by decide)
  rw [m6, w8, wr_id (x := (du d : Int)) (by omega) (by omega)] at e0
  by_cases h8 : du d = 8
  · rw [if_pos (by omega)] at e0
    obtain ⟨s1, r1, r2, r3, r4⟩ := sh_loop 56 0 σ (by omega)
    have e6 : s1 40 6 = 8 := by rw [r2 40 (by decide), m6, h8]; rfl
    have r1' : Run 104 11 [vR 40, vI 0] [] σ = Run 104 50 [vR 40, vI 0] [] (up s1 40 6 7) := by
      have := r1
      rw [e6] at this
      exact this
    obtain ⟨s2, t1, t2, t3, t4⟩ := kc_loop (u := 7) (by decide) 8 0 (up s1 40 6 7) (by omega) (up_e _ _ _ _)
    refine ⟨_, e0.trans (r1'.trans t1), fun q q1 q2 => by rw [up_ne q1, t2 q q2, up_ne q1, r2 q q2], fun j hj => by rw [up_j, if_neg hj, t2 40 (by decide), up_j, if_neg hj, r2 40 (by decide)], ?_⟩
    unfold PastM
    rw [pushD_u, if_pos h8, en]
    refine ⟨by rw [up_e]; rfl, fun j hj => ?_⟩
    rw [pushD_p hj, if_pos h8]
    have v : ∀ i, i < 8 → up s2 40 6 (((7 : Nat) : Int) + 1) 45 (8 * j + i) = if j = 7 then σ 44 i else σ 45 (8 * (j + 1) + i) := fun i hi => by
      rw [up_p _ _ _ (by decide)]
      by_cases c : j = 7
      · rw [if_pos c, c, t3 i (Nat.zero_le _) hi, up_p _ _ _ (by decide), r2 44 (by decide)]
      · rw [if_neg c, t4 _ (Or.inl (by omega)), up_p _ _ _ (by decide), r3 _ (Nat.zero_le _) (by omega)]
        congr 1
        omega
    refine ⟨fun i hi => ?_, ?_⟩
    · rw [v i (by omega)]
      by_cases c : j = 7
      · rw [if_pos c, if_pos c, m4 i hi]
        unfold curR
        rw [if_neg (by omega)]
      · rw [if_neg c, if_neg c]
        exact (m6' (j + 1) (by omega)).1 i hi
    · rw [v 7 (by decide)]
      by_cases c : j = 7
      · rw [if_pos c, if_pos c, m4']
        unfold curR
        rw [if_pos rfl]
      · rw [if_neg c, if_neg c]
        exact (m6' (j + 1) (by omega)).2
  · rw [if_neg (by omega)] at e0
    obtain ⟨s2, t1, t2, t3, t4⟩ := kc_loop (u := du d) (by omega) 8 0 σ (by omega) m6
    refine ⟨_, e0.trans t1, fun q q1 q2 => by rw [up_ne q1, t2 q q2], fun j hj => by rw [up_j, if_neg hj, t2 40 (by decide)], ?_⟩
    unfold PastM
    rw [pushD_u, if_neg h8, en]
    refine ⟨by rw [up_e]; omega, fun j hj => ?_⟩
    rw [pushD_p (by omega), if_neg h8]
    have v : ∀ i, i < 8 → up s2 40 6 (((du d : Nat) : Int) + 1) 45 (8 * j + i) = if j = du d then σ 44 i else σ 45 (8 * j + i) := fun i hi => by
      rw [up_p _ _ _ (by decide)]
      by_cases c : j = du d
      · rw [if_pos c, c, t3 i (Nat.zero_le _) hi]
      · rw [if_neg c, t4 _ (Or.inl (by omega))]
    refine ⟨fun i hi => ?_, ?_⟩
    · rw [v i (by omega)]
      by_cases c : j = du d
      · rw [if_pos c, if_pos c, m4 i hi]
        unfold curR
        rw [if_neg (by omega)]
      · rw [if_neg c, if_neg c]
        exact (m6' j (by omega)).1 i hi
    · rw [v 7 (by decide)]
      by_cases c : j = du d
      · rw [if_pos c, if_pos c, m4']
        unfold curR
        rw [if_pos rfl]
      · rw [if_neg c, if_neg c]
        exact (m6' j (by omega)).2
/-- seats, bribes, past and images are as in d', what is beside untouched -/
theorem inv_mstep {d d' : Dt} {σ τ : Sg} (hM : InvM σ d) (hs : Stp2 d d') (f : ∀ q, q ≠ 40 → q ≠ 44 → q ≠ 45 → q ≠ 46 → τ q = σ q) (f1 : τ 40 1 = σ 40 1) (f10 : τ 40 10 = σ 40 10) (hS : (∀ i, i < dn d' → τ 44 i = ((d' 5 i : Nat) : Int)) ∧ τ 44 7 = ((db d' : Nat) : Int)) (hP : PastM τ d') (hK : τ 40 8 = ((dk d' : Nat) : Int) ∧ ∀ j, j < dk d' → (∀ i, i < dn d' → τ 46 (8 * j + i) = ((d' (30 + j) i : Nat) : Int)) ∧ τ 46 (8 * j + 7) = ((d' (30 + j) 7 : Nat) : Int)) : InvM τ d' := by
  obtain ⟨m1, m2, m3, m4, m5, m6, m7, m8⟩ := hM
  obtain ⟨en, eB, eg, eL, eh, er⟩ := hs
  have z1 : ToldM τ (dn d) (dB d) (d 2) (d 4) := m1.kept (f _ (by decide) (by decide) (by decide) (by decide))
  refine ⟨?_, ?_, ?_, hS, ?_, hP, hK, ?_⟩
  · rw [en, eB, er 2 (by decide) (by decide) (by decide), er 4 (by decide) (by decide) (by decide)]; exact z1
  · rw [en, er 1 (by decide) (by decide) (by decide), er 3 (by decide) (by decide) (by decide), f 42 (by decide) (by decide) (by decide) (by decide)]; exact m2
  · rw [eg, f 42 (by decide) (by decide) (by decide) (by decide)]; exact m3
  · rw [eL, f1, er 6 (by decide) (by decide) (by decide), f 41 (by decide) (by decide) (by decide) (by decide)]; exact m5
  · rw [eh, f10, er 7 (by decide) (by decide) (by decide), er 8 (by decide) (by decide) (by decide), er 9 (by decide) (by decide) (by decide), f 47 (by decide) (by decide) (by decide) (by decide)]; exact m8
theorem past_set {σ τ : Sg} {d : Dt} {f : Nat → Nat} {b : Nat} (h : PastM σ (pushD d)) (h6 : τ 40 6 = σ 40 6) (h45 : τ 45 = σ 45) : PastM τ (setS (pushD d) f b) := by
  unfold PastM
  rw [h6, h45, show du (setS (pushD d) f b) = du (pushD d) from setS_0 (by decide), show dn (setS (pushD d) f b) = dn (pushD d) from setS_0 (by decide)]
  refine ⟨h.1, fun j hj => ?_⟩
  rw [setS_row (by omega) (by omega)]
  exact h.2 j hj
theorem imgs_push {σ τ : Sg} {d : Dt} {f : Nat → Nat} {b : Nat} (hM : InvM σ d) (h8 : τ 40 8 = σ 40 8) (h46 : τ 46 = σ 46) : τ 40 8 = ((dk (setS (pushD d) f b) : Nat) : Int) ∧ ∀ j, j < dk (setS (pushD d) f b) → (∀ i, i < dn (setS (pushD d) f b) → τ 46 (8 * j + i) = ((setS (pushD d) f b (30 + j) i : Nat) : Int)) ∧ τ 46 (8 * j + 7) = ((setS (pushD d) f b (30 + j) 7 : Nat) : Int) := by
  rw [h8, h46, show dk (setS (pushD d) f b) = dk d from (setS_0 (by decide)).trans (pushD_0 (by decide)), show dn (setS (pushD d) f b) = dn d from (setS_0 (by decide)).trans (pushD_0 (by decide))]
  refine ⟨hM.2.2.2.2.2.2.1.1, fun j hj => ?_⟩
  rw [setS_row (by omega) (by omega), pushD_row (by omega) (by omega)]
  exact hM.2.2.2.2.2.2.1.2 j hj
theorem m_change {d : Dt} {σ : Sg} {a b : Nat} (hO : OkD d) (hM : InvM σ d) (ha : a < dn d) (hb : b < dn d) (hab : a ≠ b) : ∃ σ', Cal 105 [vR 40, vI a, vI b] σ = some (vI ((d 5 b : Nat) : Int), σ') ∧ InvM σ' (d_change1 d a b) ∧ FrM σ σ' := by
  have hn := hO.1.2.1
  have e0 : Cal 105 [vR 40, vI a, vI b] σ = _ := q105_0 a b σ
  have hxa : InR (a : Int) := ⟨by omega, by omega⟩
  have hxb : InR (b : Int) := ⟨by omega, by omega⟩
  obtain ⟨s1, r1, r2, r3, r4⟩ := m_keeps hO hM
  rw [isI_m hM hxa, kcI_s, if_pos (by omega : 0 ≤ (a : Int) ∧ (a : Int) < (dn d : Int)), wr_1, if_neg (by decide), isI_m hM hxb, kcI_s, if_pos (by omega : 0 ≤ (b : Int) ∧ (b : Int) < (dn d : Int)), wr_1, if_neg (by decide), wr_in hxa, wr_in hxb, if_neg (by omega), r1, kcV_s, if_pos (by omega), if_pos (by omega), if_pos (by omega), if_pos (by omega), if_pos (by omega), toN, toN] at e0
  have hR : Rep s1 44 (dn d) (d 5) := fun i hi => by rw [r2 44 (by decide) (by decide)]; exact hM.2.2.2.1.1 i hi
  have hR2 := hR.sw ha hb
  obtain ⟨X, hX⟩ : ∃ X, X = up (up s1 44 a (s1 44 b)) 44 b (s1 44 a) := ⟨_, rfl⟩
  rw [← hX] at e0 hR2
  have kX : ∀ q, q ≠ 44 → X q = s1 q := fun q hq => by rw [hX, up_ne hq, up_ne hq]
  have en : dn (d_change1 d a b) = dn d := (stp_push d _ _).1
  have e5 : d_change1 d a b 5 = swF (d 5) a b := setS_5
  have eb : db (d_change1 d a b) = db d := setS_b
  have va : X 44 a = ((d 5 b : Nat) : Int) := by
    rw [hR2 a ha]
    unfold swF
    rw [if_neg hab, if_pos rfl]
  rw [va] at e0
  refine ⟨X, e0, ?_, fun q hq => by rw [kX q (by omega), r2 q (by omega) (by omega)]⟩
  refine inv_mstep hM (stp_push d _ _) (fun q q0 q4 q5 _ => by rw [kX q q4, r2 q q0 q5]) (by rw [kX 40 (by decide), r3 1 (by decide)]) (by rw [kX 40 (by decide), r3 10 (by decide)]) ⟨?_, ?_⟩ (past_set r4 (by rw [kX 40 (by decide)]) (kX 45 (by decide))) (imgs_push hM (by rw [kX 40 (by decide), r3 8 (by decide)]) (by rw [kX 46 (by decide), r2 46 (by decide) (by decide)]))
  · show ∀ i, i < dn (d_change1 d a b) → X 44 i = ((d_change1 d a b 5 i : Nat) : Int)
    rw [en, e5]
    exact hR2
  · show X 44 7 = ((db (d_change1 d a b) : Nat) : Int)
    rw [eb, hX, up_j, if_neg (by omega), up_j, if_neg (by omega), r2 44 (by decide) (by decide)]
    exact hM.2.2.2.1.2
