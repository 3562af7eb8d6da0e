/-! ANSWERS THAT CHANGE NOTHING: seat, asked, plays, missing, first, notes, rests, count, instrument -/
theorem sof_at {ss : Nat → Nat} {i t : Nat} : ∀ k, t < k → ss t = i → (∀ u, u < k → ss u = i → u = t) → sof ss i k = t
  | 0, h, _, _ => by omega
  | k + 1, h, e, hu => by
    unfold sof
    by_cases c : ss k = i
    · rw [if_pos c]; exact hu k (by omega) c
    · rw [if_neg c]
      have : t ≠ k := fun z => c (by rw [← z]; exact e)
      exact sof_at k (by omega) e (fun u hu2 => hu u (by omega))
theorem sof_perm {n i t : Nat} {ss : Nat → Nat} (h : PermS n ss) (ht : t < n) (e : ss t = i) : sof ss i n = t := sof_at n ht e (fun u hu e2 => h.2.1 u t hu ht (by rw [e, e2]))
theorem pl_sub {n : Nat} {kk mm aa ss : Nat → Nat} {g bb b : Nat} : aa b &&& plS n kk mm aa ss g bb b = plS n kk mm aa ss g bb b := by
  apply Nat.eq_of_testBit_eq
  intro i
  rw [Nat.testBit_and, plS_eq]
  unfold nowS
  rw [mk_bit]
  cases (aa b).testBit i <;> simp
theorem andn_sub {a p : Nat} (h : a &&& p = p) : andn a p = 0 ↔ p = a := by
  unfold andn
  rw [h]
  constructor
  · intro z
    apply Nat.eq_of_testBit_eq
    intro i
    have h1 := congrArg (fun w => Nat.testBit w i) z
    simp only [Nat.testBit_xor, Nat.zero_testBit] at h1
    cases h2 : a.testBit i <;> cases h3 : p.testBit i <;> simp_all
  · intro z
    rw [z]
    exact Nat.xor_self a
-- seat
def r_seat (d : Dt) (x : Int) : Int := if 0 ≤ x ∧ x < (dn d : Int) then ((d 5 x.toNat : Nat) : Int) else -1
theorem c_seat {d : Dt} {σ : Sg} {x : Int} (hO : OkD d) (hI : InvC σ d) (hx : InR x) : Cal 40 [vR 0, vI x] σ = some (vI (r_seat d x), σ) := by
  show Run 40 0 _ _ _ = _
  refine (q40_0 x σ).trans ?_
  have hn := hO.1.2.1
  rw [isI_c hI.1 hx, kcI_s, wr_in hx]
  unfold r_seat
  by_cases c : 0 ≤ x ∧ x < (dn d : Int)
  · rw [if_pos c, if_pos c, wr_1, if_neg (by decide), if_pos (by omega), hI.2.1.1 _ (by omega)]
  · rw [if_neg c, if_neg c, wr_0, if_pos rfl]
theorem m_seat {d : Dt} {σ : Sg} {x : Int} (hO : OkD d) (hM : InvM σ d) (hx : InR x) : Cal 98 [vR 40, vI x] σ = some (vI (r_seat d x), σ) := by
  show Run 98 0 _ _ _ = _
  refine (q98_0 x σ).trans ?_
  have hn := hO.1.2.1
  rw [isI_m hM hx, kcI_s, wr_in hx]
  unfold r_seat
  by_cases c : 0 ≤ x ∧ x < (dn d : Int)
  · rw [if_pos c, if_pos c, wr_1, if_neg (by decide), if_pos (by omega), hM.2.2.2.1.1 _ (by omega)]
  · rw [if_neg c, if_neg c, wr_0, if_pos rfl]
-- asked
def r_asked (d : Dt) (x : Int) : Int := if 0 ≤ x ∧ x < (dB d : Int) then ((d 4 x.toNat : Nat) : Int) else -1
theorem c_asked {d : Dt} {σ : Sg} {x : Int} (hO : OkD d) (hI : InvC σ d) (hx : InR x) : Cal 42 [vR 0, vI x] σ = some (vI (r_asked d x), σ) := by
  show Run 42 0 _ _ _ = _
  refine (q42_0 x σ).trans ?_
  have hn := hO.1.2.2.1
  rw [isB_c hI.1 hx, kcI_s, wr_in hx]
  unfold r_asked
  by_cases c : 0 ≤ x ∧ x < (dB d : Int)
  · rw [if_pos c, if_pos c, wr_1, if_neg (by decide), if_pos (by omega), (hI.1.1.2.2.2.2.2.2 _ (by omega)).1]
  · rw [if_neg c, if_neg c, wr_0, if_pos rfl]
theorem m_asked {d : Dt} {σ : Sg} {x : Int} (hO : OkD d) (hM : InvM σ d) (hx : InR x) : Cal 99 [vR 40, vI x] σ = some (vI (r_asked d x), σ) := by
  show Run 99 0 _ _ _ = _
  refine (q99_0 x σ).trans ?_
  have hn := hO.1.2.2.1
  rw [isB_m hM hx, kcI_s]
  unfold r_asked
  by_cases c : 0 ≤ x ∧ x < (dB d : Int)
  · rw [if_pos c, if_pos c, wr_1, if_neg (by decide), show (25 + x) = ((25 + x.toNat : Nat) : Int) by omega, wr_id (by omega) (by omega), if_pos (by omega), toN, (hM.1.2.2.2.2.2 _ (by omega)).1]
  · rw [if_neg c, if_neg c, wr_0, if_pos rfl]
-- plays
def r_plays (d : Dt) (x : Int) : Int := if 0 ≤ x ∧ x < (dB d : Int) then ((plD d x.toNat : Nat) : Int) else -1
theorem c_plays {d : Dt} {σ : Sg} {x : Int} (hO : OkD d) (hI : InvC σ d) (hx : InR x) : Cal 43 [vR 0, vI x] σ = some (vI (r_plays d x), σ) := by
  show Run 43 0 _ _ _ = _
  refine (q43_0 x σ).trans ?_
  have hn := hO.1.2.2.1
  rw [isB_c hI.1 hx, kcI_s, wr_in hx]
  unfold r_plays
  by_cases c : 0 ≤ x ∧ x < (dB d : Int)
  · rw [if_pos c, if_pos c, wr_1, if_neg (by decide), if_pos (by omega), hI.2.2.1.2.2.1 _ (by omega)]
    rfl
  · rw [if_neg c, if_neg c, wr_0, if_pos rfl]
theorem m_plays {d : Dt} {σ : Sg} {x : Int} (hO : OkD d) (hM : InvM σ d) (hx : InR x) : ∃ σ', Cal 100 [vR 40, vI x] σ = some (vI (r_plays d x), σ') ∧ InvM σ' d ∧ FrM σ σ' := by
  have hn := hO.1.2.2.1
  unfold r_plays
  have e0 : Cal 100 [vR 40, vI x] σ = _ := (q100_0 x σ)
  rw [isB_m hM hx, kcI_s] at e0
  by_cases c : 0 ≤ x ∧ x < (dB d : Int)
  · obtain ⟨σ1, σ2, r1, r2, r3, r4, r5, r6⟩ := now_m hO hM
    rw [if_pos c, wr_1, if_neg (by decide), r1, kcV_s, r2, kcI_s, wr_in hx, if_pos (by omega), r3.2.1 _ (by omega)] at e0
    rw [if_pos c]
    exact ⟨σ2, e0, r5, r6⟩
  · rw [if_neg c, wr_0, if_pos rfl] at e0
    rw [if_neg c]
    exact ⟨σ, e0, hM, FrM.rf σ⟩
-- missing
def miD (d : Dt) (b : Nat) : Nat := andn (d 4 b) (plD d b)
theorem miD_lt {d : Dt} (hO : OkD d) {b : Nat} (hb : b < dB d) : miD d b < 128 := by
  have h1 := andn_le (d 4 b) (plD d b)
  have h2 := hO.2.2.1 b hb
  have h3 := p2_7 hO.1.2.1
  unfold miD
  omega
def r_missing (d : Dt) (x : Int) : Int := if 0 ≤ x ∧ x < (dB d : Int) then ((miD d x.toNat : Nat) : Int) else -1
theorem c_missIn {d : Dt} {σ : Sg} {b : Nat} (hO : OkD d) (hI : InvC σ d) (hb : b < dB d) : Cal 44 [vR 0, vI b] σ = some (vI ((miD d b : Nat) : Int), σ) := by
  show Run 44 0 _ _ _ = _
  refine (q44_0 b σ).trans ?_
  have hn := hO.1.2.2.1
  have h2 := hO.2.2.1 b hb
  have h3 := p2_7 hO.1.2.1
  rw [wr_id (x := (b : Int)) (by omega) (by omega), if_pos (by omega), if_pos (by omega), toN, (hI.1.1.2.2.2.2.2.2 _ hb).1, hI.2.2.1.2.2.1 _ hb, ban_not _ _ (by omega)]
  rfl
theorem c_missing {d : Dt} {σ : Sg} {x : Int} (hO : OkD d) (hI : InvC σ d) (hx : InR x) : Cal 45 [vR 0, vI x] σ = some (vI (r_missing d x), σ) := by
  show Run 45 0 _ _ _ = _
  refine (q45_0 x σ).trans ?_
  rw [isB_c hI.1 hx, kcI_s]
  unfold r_missing
  by_cases c : 0 ≤ x ∧ x < (dB d : Int)
  · have e1 := c_missIn (b := x.toNat) hO hI (by omega)
    rw [show ((x.toNat : Nat) : Int) = x by omega] at e1
    rw [if_pos c, if_pos c, wr_1, if_neg (by decide), e1, kcI_s]
  · rw [if_neg c, if_neg c, wr_0, if_pos rfl]
theorem m_missing {d : Dt} {σ : Sg} {x : Int} (hO : OkD d) (hM : InvM σ d) (hx : InR x) : ∃ σ', Cal 101 [vR 40, vI x] σ = some (vI (r_missing d x), σ') ∧ InvM σ' d ∧ FrM σ σ' := by
  have hn := hO.1.2.2.1
  have h3 := p2_7 hO.1.2.1
  have e0 : Cal 101 [vR 40, vI x] σ = _ := (q101_0 x σ)
  rw [isB_m hM hx, kcI_s] at e0
  unfold r_missing
  by_cases c : 0 ≤ x ∧ x < (dB d : Int)
  · have h2 := hO.2.2.1 x.toNat (by omega)
    obtain ⟨σ', r1, r2, r3⟩ := m_plays hO hM hx
    unfold r_plays at r1
    rw [if_pos c] at r1
    rw [if_pos c, wr_1, if_neg (by decide), show (25 + x) = ((25 + x.toNat : Nat) : Int) by omega, wr_id (x := ((25 + x.toNat : Nat) : Int)) (by omega) (by omega), if_pos (by omega), toN, (hM.1.2.2.2.2.2 _ (by omega)).1, r1, kcI_s, ban_not _ _ (by omega)] at e0
    rw [if_pos c]
    exact ⟨σ', e0, r2, r3⟩
  · rw [if_neg c, wr_0, if_pos rfl] at e0
    rw [if_neg c]
    exact ⟨σ, e0, hM, FrM.rf σ⟩
-- first
def fS (d : Dt) : Nat → Nat → Int
  | 0, _ => -4
  | r + 1, b => if plD d b = d 4 b then fS d r (b + 1) else (b : Int)
def fD (d : Dt) : Nat → Int → Int
  | 0, f => f
  | k + 1, f => fD d k (if plD d k = d 4 k then f else (k : Int))
theorem fD_fS (d : Dt) (B : Nat) : ∀ k, k ≤ B → fD d k (fS d (B - k) k) = fS d B 0
  | 0, _ => rfl
  | k + 1, h => by
    have ih := fD_fS d B k (by omega)
    show fD d k (if plD d k = d 4 k then fS d (B - (k + 1)) (k + 1) else (k : Int)) = _
    rw [show B - k = (B - (k + 1)) + 1 by omega] at ih
    exact ih
def r_first (d : Dt) : Int := fS d (dB d) 0
theorem c_first_loop {d : Dt} {σ : Sg} (hO : OkD d) (hI : InvC σ d) : ∀ (r b : Nat), b + r = dB d → Run 46 2 [vR 0, vI b] [] σ = some (vI (fS d r b), σ)
  | 0, b, h => by
    have hn := hO.1.2.2.1
    rw [q46_2, hI.1.1.2.2.1, if_neg (by rw [wr_id (by omega) (by omega), wr_id (by omega) (by omega)]; omega)]
    rfl
  | r + 1, b, h => by
    have hn := hO.1.2.2.1
    have hb : b < dB d := by omega
    have hl := miD_lt hO hb
    rw [q46_2, hI.1.1.2.2.1, if_pos (by rw [wr_id (by omega) (by omega), wr_id (by omega) (by omega)]; omega), c_missIn hO hI hb, kcI_s, wr_id (by omega) (by omega)]
    unfold fS
    have hs : miD d b = 0 ↔ plD d b = d 4 b := andn_sub pl_sub
    by_cases c : plD d b = d 4 b
    · rw [if_pos (by have := hs.mpr c; omega), if_pos c]
      exact c_first_loop hO hI r (b + 1) (by omega)
    · rw [if_neg (fun z => c (hs.mp (by omega))), if_neg c]
theorem c_first {d : Dt} {σ : Sg} (hO : OkD d) (hI : InvC σ d) : Cal 46 [vR 0] σ = some (vI (r_first d), σ) := (q46_0 σ).trans (c_first_loop hO hI (dB d) 0 (by omega))
theorem m_first_loop {d : Dt} {σ : Sg} (hO : OkD d) (hM : InvM σ d) (hG : ∀ j, j < dB d → σ 51 j = ((plD d j : Nat) : Int)) : ∀ (k : Nat) (f : Int), k ≤ dB d → Run 102 21 [vR 40, vI f, vI ((k : Int) - 1)] [] σ = some (vI (fD d k f), σ)
  | 0, f, h => by
    rw [q102_21, if_pos (by rw [wr_id (by omega) (by omega)]; omega)]
    rfl
  | k + 1, f, h => by
    have hn := hO.1.2.2.1
    have h3 := p2_7 hO.1.2.1
    have h2 := hO.2.2.1 k (by omega)
    have h4 : plD d k < 2 ^ dn d := plS_lt _ _ _ _ _ _ _ _
    have e1 : (((k + 1 : Nat) : Int) - 1) = (k : Int) := by omega
    have e3 : ((k : Int) + (-1)) = ((k : Int) - 1) := by omega
    rw [e1, q102_21, e3, show (25 + (k : Int)) = ((25 + k : Nat) : Int) by omega, wr_id (x := (k : Int)) (by omega) (by omega), wr_id (x := ((25 + k : Nat) : Int)) (by omega) (by omega), if_neg (by omega), if_pos (by omega), if_pos (by omega), toN, toN, hG k (by omega), (hM.1.2.2.2.2.2 k (by omega)).1, wr_id (by omega) (by omega), wr_id (by omega) (by omega)]
    unfold fD
    by_cases c : plD d k = d 4 k
    · rw [if_pos (by omega), if_pos c]
      exact m_first_loop hO hM hG k f (by omega)
    · rw [if_neg (by omega), if_neg c]
      exact m_first_loop hO hM hG k (k : Int) (by omega)
theorem m_first {d : Dt} {σ : Sg} (hO : OkD d) (hM : InvM σ d) : ∃ σ', Cal 102 [vR 40] σ = some (vI (r_first d), σ') ∧ InvM σ' d ∧ FrM σ σ' := by
  obtain ⟨σ1, σ2, r1, r2, r3, r4, r5, r6⟩ := now_m hO hM
  have e0 : Cal 102 [vR 40] σ = _ := (q102_0 σ)
  rw [r1, kcV_s, r2, kcI_s, wr_1, if_pos (by omega), show (1 : Int).toNat = 1 from rfl, r5.1.2.2.1, m_first_loop hO r5 r3.2.1 (dB d) (-4) (Nat.le_refl _)] at e0
  refine ⟨σ2, e0.trans ?_, r5, r6⟩
  have := fD_fS d (dB d) (dB d) (Nat.le_refl _)
  rw [Nat.sub_self] at this
  rw [show fD d (dB d) (-4) = r_first d from this]
-- notes
def r_notes (d : Dt) (x : Int) : Int := if x = 0 then ((ntD d : Nat) : Int) else if x = 1 then ((whD d : Nat) : Int) else -1
theorem c_notes {d : Dt} {σ : Sg} {x : Int} (hI : InvC σ d) (hx : InR x) : Cal 47 [vR 0, vI x] σ = some (vI (r_notes d x), σ) := by
  show Run 47 0 _ _ _ = _
  refine (q47_0 x σ).trans ?_
  unfold r_notes
  rw [wr_in hx, hI.2.2.1.1, hI.2.2.1.2.1]
  by_cases c : x = 0
  · rw [if_pos c, if_pos c]; rfl
  · rw [if_neg c, if_neg c]
    by_cases c1 : x = 1
    · rw [if_pos c1, if_pos c1]; rfl
    · rw [if_neg c1, if_neg c1]
theorem m_notes {d : Dt} {σ : Sg} {x : Int} (hO : OkD d) (hM : InvM σ d) (hx : InR x) : ∃ σ', Cal 103 [vR 40, vI x] σ = some (vI (r_notes d x), σ') ∧ InvM σ' d ∧ FrM σ σ' := by
  obtain ⟨σ1, σ2, r1, r2, r3, r4, r5, r6⟩ := now_m hO hM
  have e0 : Cal 103 [vR 40, vI x] σ = _ := (q103_0 x σ)
  have e1 : Cal 79 [vI x, vI 0, vI 1] σ = some (vI (if 0 ≤ x ∧ x ≤ 1 then 1 else 0), σ) := in_m hx ⟨by omega, by omega⟩ ⟨by omega, by omega⟩
  rw [e1, kcI_s] at e0
  unfold r_notes
  by_cases c : 0 ≤ x ∧ x ≤ 1
  · rw [if_pos c, wr_1, if_neg (by decide), r1, kcV_s, r2, kcI_s, wr_in hx, r3.1] at e0
    refine ⟨σ2, e0.trans ?_, r5, r6⟩
    by_cases c0 : x = 0
    · rw [if_pos c0, if_pos c0]; rfl
    · rw [if_neg c0, if_neg c0, if_pos (by omega)]
  · rw [if_neg c, wr_0, if_pos rfl] at e0
    refine ⟨σ, e0.trans ?_, hM, FrM.rf σ⟩
    rw [if_neg (by omega), if_neg (by omega)]
-- rests
def rsS (d : Dt) : Nat → Nat
  | 0 => 0
  | b + 1 => rsS d b + popc 8 (miD d b)
def r_rests (d : Dt) : Int := ((rsS d (dB d) : Nat) : Int)
theorem c_rests_loop {d : Dt} {σ : Sg} (hO : OkD d) (hI : InvC σ d) : ∀ (r b : Nat), b + r = dB d → Run 58 4 [vR 0, vI ((rsS d b : Nat) : Int), vI b] [] σ = some (vI (r_rests d), σ)
  | 0, b, h => by
    have hn := hO.1.2.2.1
    have hb : b = dB d := by omega
    rw [q58_4, hI.1.1.2.2.1, if_neg (by rw [wr_id (by omega) (by omega), wr_id (by omega) (by omega)]; omega), hb]
    rfl
  | r + 1, b, h => by
    have hn := hO.1.2.2.1
    have hb : b < dB d := by omega
    have hl := miD_lt hO hb
    rw [q58_4, hI.1.1.2.2.1, if_pos (by rw [wr_id (by omega) (by omega), wr_id (by omega) (by omega)]; omega), c_missIn hO hI hb, kcI_s, bc_all _ hl, kcI_s]
    exact c_rests_loop hO hI r (b + 1) (by omega)
theorem c_rests {d : Dt} {σ : Sg} (hO : OkD d) (hI : InvC σ d) : Cal 58 [vR 0] σ = some (vI (r_rests d), σ) := (q58_0 σ).trans (c_rests_loop hO hI (dB d) 0 (by omega))
theorem m_rests_loop {d : Dt} {σ : Sg} (hO : OkD d) (hM : InvM σ d) (hG : ∀ j, j < dB d → σ 51 j = ((plD d j : Nat) : Int)) : ∀ (r b : Nat), b + r = dB d → Run 117 13 [vR 40, vI ((rsS d b : Nat) : Int), vI b] [] σ = some (vI (r_rests d), σ)
  | 0, b, h => by
    have hn := hO.1.2.2.1
    have hb : b = dB d := by omega
    rw [q117_13, wr_1, if_pos (by omega), show (1 : Int).toNat = 1 from rfl, hM.1.2.2.1, if_neg (by rw [wr_id (by omega) (by omega), wr_id (by omega) (by omega)]; omega), hb]
    rfl
  | r + 1, b, h => by
    have hn := hO.1.2.2.1
    have h3 := p2_7 hO.1.2.1
    have hb : b < dB d := by omega
    have hl := miD_lt hO hb
    have h2 := hO.2.2.1 b hb
    rw [q117_13, wr_1, if_pos (by omega), show (1 : Int).toNat = 1 from rfl, hM.1.2.2.1, wr_id (x := (b : Int)) (by omega) (by omega), wr_id (x := (dB d : Int)) (by omega) (by omega), if_pos (by omega), show (25 + (b : Int)) = ((25 + b : Nat) : Int) by omega, wr_id (x := ((25 + b : Nat) : Int)) (by omega) (by omega), if_pos (by omega), if_pos (by omega), toN, toN, (hM.1.2.2.2.2.2 b hb).1, hG b hb, ban_not _ _ (by omega)]
    have e2 : Cal 82 [vI ((andn (d 4 b) (plD d b) : Nat) : Int)] σ = some (vI ((popc 8 (miD d b) : Nat) : Int), σ) := ones_all (miD d b) (by omega) σ
    rw [e2, kcI_s]
    exact m_rests_loop hO hM hG r (b + 1) (by omega)
theorem m_rests {d : Dt} {σ : Sg} (hO : OkD d) (hM : InvM σ d) : ∃ σ', Cal 117 [vR 40] σ = some (vI (r_rests d), σ') ∧ InvM σ' d ∧ FrM σ σ' := by
  obtain ⟨σ1, σ2, r1, r2, r3, r4, r5, r6⟩ := now_m hO hM
  have e0 : Cal 117 [vR 40] σ = _ := (q117_0 σ)
  rw [r1, kcV_s, r2, kcI_s] at e0
  exact ⟨σ2, e0.trans (m_rests_loop hO r5 r3.2.1 (dB d) 0 (by omega)), r5, r6⟩
-- count
def r_count (d : Dt) (x : Int) : Int := if x = 0 then ((dn d : Nat) : Int) else if x = 1 then ((dB d : Nat) : Int) else if x = 2 then ((popc 8 (dg d) : Nat) : Int) else if x = 3 then ((popc 8 (db d) : Nat) : Int) else if x = 4 then ((dh d : Nat) : Int) else if x = 5 then ((du d : Nat) : Int) else if x = 6 then ((dk d : Nat) : Int) else if x = 7 then ((dL d : Nat) : Int) else -1
theorem c_count {d : Dt} {σ : Sg} {x : Int} (hO : OkD d) (hI : InvC σ d) (hx : InR x) : Cal 73 [vR 0, vI x] σ = some (vI (r_count d x), σ) := by
  have h3 := p2_7 hO.1.2.1
  have hg := hO.1.2.2.2.1
  have hb := hO.1.2.2.2.2.1
  show Run 73 0 _ _ _ = _
  refine (q73_0 x σ).trans ?_
  unfold r_count
  rw [wr_in hx, hI.1.1.1, hI.1.1.2.2.1, hI.1.2.2, hI.2.1.2, bc_all _ (by omega), bc_all _ (by omega), kcI_s, kcI_s, hI.2.2.2.2.1.1, hI.2.2.2.2.2.2.1.1, hI.2.2.2.2.2.1.1, hI.2.2.2.1.1]
  repeat' split
  all_goals rfl
theorem m_count {d : Dt} {σ : Sg} {x : Int} (hO : OkD d) (hM : InvM σ d) (hx : InR x) : Cal 130 [vR 40, vI x] σ = some (vI (r_count d x), σ) := by
  have h3 := p2_7 hO.1.2.1
  have hg := hO.1.2.2.2.1
  have hb := hO.1.2.2.2.2.1
  show Run 130 0 _ _ _ = _
  refine (q130_0 x σ).trans ?_
  unfold r_count
  have w7 : wr 7 = 7 := by decide
  have w3 : wr 3 = 3 := by decide
  have c0 : (0 : Int) ≤ 0 ∧ (0 : Int) < 40 := by omega
  have c1 : (0 : Int) ≤ 1 ∧ (1 : Int) < 40 := by omega
  have c3 : (0 : Int) ≤ 3 ∧ (3 : Int) < 40 := by omega
  have c7 : (0 : Int) ≤ 7 ∧ (7 : Int) < 8 := by omega
  rw [wr_in hx, wr_0, wr_1, w3, w7]
  simp only [if_pos c0, if_pos c1, if_pos c3, if_pos c7]
  rw [Int.toNat_zero, show (1 : Int).toNat = 1 from rfl, show (3 : Int).toNat = 3 from rfl, show (7 : Int).toNat = 7 from rfl, hM.1.1, hM.1.2.2.1, hM.2.2.1, hM.2.2.2.1.2, ones_all _ (by omega), ones_all _ (by omega), kcI_s, kcI_s, hM.2.2.2.2.2.2.2.1, hM.2.2.2.2.2.1.1, hM.2.2.2.2.2.2.1.1, hM.2.2.2.2.1.1]
  repeat' split
  all_goals rfl
-- instrument
def r_instr (d : Dt) (x y : Int) : Int := if 0 ≤ x ∧ x < (dn d : Int) then (if y = 0 then ((d 1 x.toNat : Nat) : Int) else if y = 1 then ((d 2 x.toNat : Nat) : Int) else if y = 2 then ((d 3 x.toNat : Nat) : Int) else if y = 3 then ((sof (d 5) x.toNat (dn d) : Nat) : Int) else if y = 4 then (if (db d).testBit x.toNat = true then 1 else 0) else if y = 5 then ((bsM (dn d) (d 5) (dg d) x.toNat : Nat) : Int) else -1) else -1
theorem c_seatOf_loop {d : Dt} {σ : Sg} {i t : Nat} (hO : OkD d) (hI : InvC σ d) (ht : t < dn d) (he : d 5 t = i) : ∀ (r s : Nat), s + r = t → Run 38 2 [vR 0, vI i, vI s] [] σ = some (vI (t : Int), σ)
  | 0, s, h => by
    have hn := hO.1.2.1
    have hi : i < dn d := by rw [← he]; exact hO.2.2.2.1.1 t ht
    rw [q38_2, hI.1.1.1, wr_id (x := (s : Int)) (by omega) (by omega), wr_id (x := (dn d : Int) - 1) (by omega) (by omega)]
    by_cases c : (s : Int) < (dn d : Int) - 1
    · have e1 : d 5 s = i := by rw [show s = t by omega]; exact he
      rw [if_pos c, if_pos (by omega), toN, hI.2.1.1 s (by omega), e1, if_pos rfl, show s = t by omega]
    · rw [if_neg c, show s = t by omega]
  | r + 1, s, h => by
    have hn := hO.1.2.1
    have hi : i < dn d := by rw [← he]; exact hO.2.2.2.1.1 t ht
    have h5 := hO.2.2.2.1.1 s (by omega)
    have hne : d 5 s ≠ i := fun z => by have := hO.2.2.2.1.2.1 s t (by omega) ht (by rw [z, he]); omega
    rw [q38_2, hI.1.1.1, wr_id (x := (s : Int)) (by omega) (by omega), wr_id (x := (dn d : Int) - 1) (by omega) (by omega), if_pos (by omega), if_pos (by omega), toN, hI.2.1.1 s (by omega), wr_id (by omega) (by omega), wr_id (by omega) (by omega), if_neg (by omega)]
    exact c_seatOf_loop hO hI ht he r (s + 1) (by omega)
theorem c_seatOf {d : Dt} {σ : Sg} {i : Nat} (hO : OkD d) (hI : InvC σ d) (hi : i < dn d) : Cal 38 [vR 0, vI i] σ = some (vI ((sof (d 5) i (dn d) : Nat) : Int), σ) := by
  obtain ⟨t, ht, he⟩ := hO.2.2.2.1.2.2 i hi
  rw [sof_perm hO.2.2.2.1 ht he]
  exact (q38_0 _ σ).trans (c_seatOf_loop hO hI ht he t 0 (by omega))
theorem m_seatOf_loop {d : Dt} {σ : Sg} {i : Nat} (hO : OkD d) (hM : InvM σ d) (hi : i < 7) : ∀ (r k : Nat), k + r = dn d → Run 96 4 [vR 40, vI i, vI ((sof (d 5) i k : Nat) : Int), vI k] [] σ = some (vI ((sof (d 5) i (dn d) : Nat) : Int), σ)
  | 0, k, h => by
    have hn := hO.1.2.1
    have hk : k = dn d := by omega
    rw [q96_4, wr_0, if_pos (by omega), Int.toNat_zero, hM.1.1, if_neg (by rw [wr_id (by omega) (by omega), wr_id (by omega) (by omega)]; omega), hk]
  | r + 1, k, h => by
    have hn := hO.1.2.1
    have h5 := hO.2.2.2.1.1 k (by omega)
    rw [q96_4, wr_0, if_pos (by omega), Int.toNat_zero, hM.1.1, wr_id (x := (k : Int)) (by omega) (by omega), wr_id (x := (dn d : Int)) (by omega) (by omega), if_pos (by omega), if_pos (by omega), toN, hM.2.2.2.1.1 k (by omega), wr_id (by omega) (by omega), wr_id (by omega) (by omega)]
    have ih := m_seatOf_loop hO hM hi r (k + 1) (by omega)
    have es : sof (d 5) i (k + 1) = if d 5 k = i then k else sof (d 5) i k := rfl
    rw [es] at ih
    by_cases c : d 5 k = i
    · rw [if_pos (by omega)]
      rw [if_pos c] at ih
      exact ih
    · rw [if_neg (by omega)]
      rw [if_neg c] at ih
      exact ih
theorem m_seatOf {d : Dt} {σ : Sg} {i : Nat} (hO : OkD d) (hM : InvM σ d) (hi : i < 7) : Cal 96 [vR 40, vI i] σ = some (vI ((sof (d 5) i (dn d) : Nat) : Int), σ) := (q96_0 _ σ).trans (m_seatOf_loop hO hM hi (dn d) 0 (by omega))
theorem c_instr {d : Dt} {σ : Sg} {x y : Int} (hO : OkD d) (hI : InvC σ d) (hx : InR x) (hy : InR y) : Cal 39 [vR 0, vI x, vI y] σ = some (vI (r_instr d x y), σ) := by
  have hn := hO.1.2.1
  have h3 := p2_7 hO.1.2.1
  have hb := hO.1.2.2.2.2.1
  show Run 39 0 _ _ _ = _
  refine (q39_0 x y σ).trans ?_
  rw [isI_c hI.1 hx, kcI_s, wr_in hx, wr_in hy]
  unfold r_instr
  by_cases c : 0 ≤ x ∧ x < (dn d : Int)
  · have e1 := c_seatOf (i := x.toNat) hO hI (by omega)
    have e2 := bit_n (db d) x.toNat (by omega) (by omega)
    have ex : ((x.toNat : Nat) : Int) = x := by omega
    rw [ex] at e1 e2
    have cx : 0 ≤ x ∧ x < 7 := by omega
    rw [if_pos c, if_pos c, wr_1, if_neg (by decide)]
    simp only [if_pos cx]
    rw [(hI.1.1.2.2.2.2.1 _ (by omega)).1, (hI.1.1.2.2.2.2.2.1 _ (by omega)).1, hI.1.2.1 _ (by omega), e1, kcI_s, hI.2.1.2, e2, hI.2.2.1.2.2.2 _ (by omega)]
    repeat' split
    all_goals rfl
  · rw [if_neg c, if_neg c, wr_0, if_pos rfl]
theorem m_instr {d : Dt} {σ : Sg} {x y : Int} (hO : OkD d) (hM : InvM σ d) (hx : InR x) (hy : InR y) : ∃ σ', Cal 97 [vR 40, vI x, vI y] σ = some (vI (r_instr d x y), σ') ∧ InvM σ' d ∧ FrM σ σ' := by
  have hn := hO.1.2.1
  have h3 := p2_7 hO.1.2.1
  have hb := hO.1.2.2.2.2.1
  have e0 : Cal 97 [vR 40, vI x, vI y] σ = _ := (q97_0 x y σ)
  rw [isI_m hM hx, kcI_s] at e0
  unfold r_instr
  by_cases c : 0 ≤ x ∧ x < (dn d : Int)
  · obtain ⟨σ1, σ2, r1, r2, r3, r4, r5, r6⟩ := now_m hO hM
    have e1 := m_seatOf (i := x.toNat) hO r5 (by omega)
    have e2 := bit_n (db d) x.toNat (by omega) (by omega)
    have ex : ((x.toNat : Nat) : Int) = x := by omega
    have w7 : wr 7 = 7 := by decide
    rw [ex] at e1 e2
    rw [if_pos c, wr_1, if_neg (by decide), r1, kcV_s, r2, kcI_s, wr_in hy, show (4 + x) = ((4 + x.toNat : Nat) : Int) by omega, show (11 + x) = ((11 + x.toNat : Nat) : Int) by omega, show (18 + x) = ((18 + x.toNat : Nat) : Int) by omega, wr_id (x := ((4 + x.toNat : Nat) : Int)) (by omega) (by omega), wr_id (x := ((11 + x.toNat : Nat) : Int)) (by omega) (by omega), wr_id (x := ((18 + x.toNat : Nat) : Int)) (by omega) (by omega), w7, wr_in hx] at e0
    have cx : 0 ≤ x ∧ x < 7 := by omega
    have cy : (0 : Int) ≤ 7 ∧ (7 : Int) < 8 := by omega
    have c4 : 0 ≤ ((4 + x.toNat : Nat) : Int) ∧ ((4 + x.toNat : Nat) : Int) < 40 := by omega
    have c11 : 0 ≤ ((11 + x.toNat : Nat) : Int) ∧ ((11 + x.toNat : Nat) : Int) < 40 := by omega
    have c18 : 0 ≤ ((18 + x.toNat : Nat) : Int) ∧ ((18 + x.toNat : Nat) : Int) < 40 := by omega
    simp only [if_pos cx, if_pos cy, if_pos c4, if_pos c11, if_pos c18, toN] at e0
    rw [ (r5.2.1 _ (by omega)).1, (r5.1.2.2.2.2.1 _ (by omega)).1, (r5.2.1 _ (by omega)).2, e1, kcI_s, show (7 : Int).toNat = 7 from rfl, r5.2.2.2.1.2, e2, r3.2.2 _ (by omega)] at e0
    refine ⟨σ2, e0.trans ?_, r5, r6⟩
    rw [if_pos c]
    repeat' split
    all_goals rfl
  · rw [if_neg c, wr_0, if_pos rfl] at e0
    rw [if_neg c]
    exact ⟨σ, e0, hM, FrM.rf σ⟩
