/-! LAY: what is laid; the class -/
def allB (P : Nat → Bool) : Nat → Bool
  | 0 => true
  | k + 1 => allB P k && P k
theorem allB_iff (P : Nat → Bool) : ∀ n, allB P n = true ↔ ∀ k, k < n → P k = true
  | 0 => ⟨fun _ k hk => by omega, fun _ => rfl⟩
  | n + 1 => by
    show (allB P n && P n) = true ↔ _
    rw [Bool.and_eq_true, allB_iff P n]
    constructor
    · rintro ⟨h1, h2⟩ k hk
      rcases (show k < n ∨ k = n by omega) with g | g
      · exact h1 k g
      · rw [g]; exact h2
    · intro h
      exact ⟨fun k hk => h k (by omega), h n (by omega)⟩
def miB (D : Dt) : Bool := allB (fun i => decide (D 2 i < D 0 0)) (D 0 0)
def asB (D : Dt) : Bool := allB (fun b => decide (D 4 b < 2 ^ D 0 0)) (D 0 1)
def lokB (D : Dt) : Bool := miB D && (asB D && decide (0 < D 0 0))
theorem miB_iff (D : Dt) : miB D = true ↔ ∀ i, i < D 0 0 → D 2 i < D 0 0 := by
  unfold miB
  rw [allB_iff]
  constructor
  · intro h i hi
    have := h i hi
    simpa using this
  · intro h i hi
    have := h i hi
    simpa using this
theorem asB_iff (D : Dt) : asB D = true ↔ ∀ b, b < D 0 1 → D 4 b < 2 ^ D 0 0 := by
  unfold asB
  rw [allB_iff]
  constructor
  · intro h i hi
    have := h i hi
    simpa using this
  · intro h i hi
    have := h i hi
    simpa using this
theorem lokB_iff (D : Dt) : lokB D = true ↔ miB D = true ∧ asB D = true ∧ 0 < D 0 0 := by
  unfold lokB
  rw [Bool.and_eq_true, Bool.and_eq_true, decide_eq_true_eq]
-- those not told sit behind, by number
def mkD (D : Dt) : Nat := tsM (D 5) (D 0 3)
def seatK (D : Dt) : Nat → Dt
  | 0 => D
  | k + 1 => addS (seatK D k) k
theorem aS_bit (D : Dt) (i j : Nat) : (mkD (addS D i)).testBit j = ((mkD D).testBit j || decide (i = j)) := by
  unfold addS
  by_cases c : (tsM (D 5) (D 0 3)).testBit i = true
  · rw [if_pos c]
    by_cases g : i = j
    · rw [← g]
      show (tsM (D 5) (D 0 3)).testBit i = _
      unfold mkD
      rw [c]
      rfl
    · simp [g]
  · rw [if_neg c]
    have e : mkD (uq (uq D 5 (D 0 3) i) 0 3 (D 0 3 + 1)) = mkD D ||| 2 ^ i := by
      unfold mkD
      rw [dq_e]
      show tsM _ (D 0 3) ||| 2 ^ _ = _
      rw [tsM_congr (g := D 5) (D 0 3) (fun s hs => by rw [dq_q _ _ _ _ (by decide), dq_j, if_neg (by omega)]), dq_q _ _ _ _ (by decide), dq_j, if_pos rfl]
    rw [e, Nat.testBit_or, Nat.testBit_two_pow]
theorem aS_q {D : Dt} {i q : Nat} (h0 : q ≠ 0) (h5 : q ≠ 5) : addS D i q = D q := by
  unfold addS
  split
  · rfl
  · funext j
    rw [dq_q _ _ _ _ h0, dq_q _ _ _ _ h5]
theorem aS_0 {D : Dt} {i j : Nat} (h : j ≠ 3) : addS D i 0 j = D 0 j := by
  unfold addS
  split
  · rfl
  · rw [dq_j, if_neg h, dq_q _ _ _ _ (by decide)]
theorem sk_q {D : Dt} {q : Nat} (h0 : q ≠ 0) (h5 : q ≠ 5) : ∀ k, seatK D k q = D q
  | 0 => rfl
  | k + 1 => (aS_q h0 h5).trans (sk_q h0 h5 k)
theorem sk_0 {D : Dt} {j : Nat} (h : j ≠ 3) : ∀ k, seatK D k 0 j = D 0 j
  | 0 => rfl
  | k + 1 => (aS_0 h).trans (sk_0 h k)
theorem sk_bit (D : Dt) (j : Nat) : ∀ k, (mkD (seatK D k)).testBit j = ((mkD D).testBit j || decide (j < k))
  | 0 => by
    show (mkD D).testBit j = _
    simp
  | k + 1 => by
    show (mkD (addS (seatK D k) k)).testBit j = _
    rw [aS_bit, sk_bit D j k, Bool.or_assoc]
    congr 1
    by_cases c : j < k
    · simp [c, show j < k + 1 by omega]
    · by_cases g : k = j
      · simp [g]
      · simp [c, g, show ¬ j < k + 1 by omega]
theorem sk_ok {D : Dt} (h : OkR D) : ∀ k, k ≤ D 0 0 → OkR (seatK D k)
  | 0, _ => h
  | k + 1, hk => (sk_ok h k (by omega)).S (by rw [sk_0 (by decide)]; omega)
theorem cnt_tail {P : Nat → Bool} {n : Nat} (h1 : ∀ s, s < n → P s = false) (h2 : ∀ s, n ≤ s → P s = true) : ∀ r, cnt P (n + r) = r
  | 0 => by
    have : ∀ k, k ≤ n → cnt P k = 0 := by
      intro k
      induction k with
      | zero => intro _; rfl
      | succ k ih =>
        intro hk
        unfold cnt
        rw [ih (by omega), h1 k (by omega), if_neg (by decide)]
    exact this n (Nat.le_refl _)
  | r + 1 => by
    have h3 : P (n + r) = true := h2 _ (by omega)
    show cnt P (n + r) + (if P (n + r) = true then 1 else 0) = _
    rw [cnt_tail h1 h2 r, h3, if_pos rfl]
theorem perm_ts {f : Nat → Nat} {m n : Nat} (h : OkS f m n) (hn : n ≤ 7) (hb : ∀ i, i < n → (tsM f m).testBit i = true) : m = n ∧ PermS n f := by
  have hlt : tsM f m < 2 ^ n := tsM_lt m h.1
  have hc : fr 7 (tsM f m) = 7 - n := by
    have := cnt_tail (P := fun s => !(tsM f m).testBit s) (n := n) (fun s hs => by show (!(tsM f m).testBit s) = false; rw [hb s hs]; rfl) (fun s hs => by
      show (!(tsM f m).testBit s) = true
      rw [Nat.testBit_lt_two_pow (Nat.lt_of_lt_of_le hlt (Nat.pow_le_pow_right (by decide) hs))]
      rfl) (7 - n)
    rw [show n + (7 - n) = 7 by omega] at this
    exact this
  have h3 := h.2.2
  have hm : m = n := by omega
  refine ⟨hm, fun s hs => h.1 s (by omega), fun s t hs ht => h.2.1 s t (by omega) (by omega), fun v hv => ?_⟩
  obtain ⟨s, hs, e⟩ := (tsM_bit f v m).mp (hb v hv)
  exact ⟨s, by omega, e⟩
theorem sk_perm {D : Dt} (h : OkR D) : seatK D (D 0 0) 0 3 = D 0 0 ∧ PermS (D 0 0) (seatK D (D 0 0) 5) := by
  have hk := sk_ok h (D 0 0) (Nat.le_refl _)
  have e0 : seatK D (D 0 0) 0 0 = D 0 0 := sk_0 (by decide) _
  have hS := hk.2.2.2
  rw [e0] at hS
  refine perm_ts hS h.1.1 (fun i hi => ?_)
  have := sk_bit D i (D 0 0)
  unfold mkD at this
  rw [this]
  simp [hi]
theorem sk_full {D : Dt} (h : OkR D) {k : Nat} (hk : k ≤ D 0 0) (hm : seatK D k 0 3 = 7) : ∀ r, k + r ≤ 7 → seatK D (k + r) = seatK D k
  | 0, _ => rfl
  | r + 1, hr => by
    have ih := sk_full h hk hm r (by omega)
    show addS (seatK D (k + r)) (k + r) = _
    rw [ih]
    have hS := (sk_ok h k hk).2.2.2
    have hf : fr 7 (tsM (seatK D k 5) (seatK D k 0 3)) = 0 := by have := hS.2.2; omega
    unfold addS
    rw [if_pos (fr_0 (by omega : k + r < 7) hf)]
-- the store behind it
def d_lay (d : Dt) : Dt := fun q j => if q = 0 then (if j = 0 then (rdA d).2 0 0 else if j = 1 then (rdA d).2 0 1 else if j = 2 then (rdA d).2 0 2 else if j = 4 then d 0 4 else 0) else if 1 ≤ q ∧ q ≤ 5 then seatK (rdA d).2 ((rdA d).2 0 0) q j else d q j
def d_lay1 (d : Dt) : Dt := if (rdA d).1 = -4 ∧ lokB (rdA d).2 = true then d_lay d else d
def r_lay (d : Dt) : Int := if (rdA d).1 = -4 ∧ lokB (rdA d).2 = true then (((rdA d).2 0 0 : Nat) : Int) else -2
theorem dl_row {d : Dt} {q : Nat} (h0 : q ≠ 0) (h1 : 1 ≤ q ∧ q ≤ 5) : d_lay d q = seatK (rdA d).2 ((rdA d).2 0 0) q := by
  funext j
  unfold d_lay
  rw [if_neg h0, if_pos h1]
theorem dl_hi {d : Dt} {q : Nat} (h1 : 5 < q) : d_lay d q = d q := by
  funext j
  unfold d_lay
  rw [if_neg (by omega), if_neg (by omega)]
theorem dl_1 {d : Dt} : d_lay d 1 = (rdA d).2 1 := (dl_row (by decide) (by decide)).trans (sk_q (by decide) (by decide) _)
theorem dl_2 {d : Dt} : d_lay d 2 = (rdA d).2 2 := (dl_row (by decide) (by decide)).trans (sk_q (by decide) (by decide) _)
theorem dl_3 {d : Dt} : d_lay d 3 = (rdA d).2 3 := (dl_row (by decide) (by decide)).trans (sk_q (by decide) (by decide) _)
theorem dl_4 {d : Dt} : d_lay d 4 = (rdA d).2 4 := (dl_row (by decide) (by decide)).trans (sk_q (by decide) (by decide) _)
theorem dl_n {d : Dt} : dn (d_lay d) = (rdA d).2 0 0 := rfl
theorem dl_B {d : Dt} : dB (d_lay d) = (rdA d).2 0 1 := rfl
theorem dl_g {d : Dt} : dg (d_lay d) = (rdA d).2 0 2 := rfl
theorem dl_b {d : Dt} : db (d_lay d) = 0 := rfl
theorem dl_L {d : Dt} : dL (d_lay d) = dL d := rfl
theorem dl_h {d : Dt} : dh (d_lay d) = 0 := rfl
theorem dl_u {d : Dt} : du (d_lay d) = 0 := rfl
theorem dl_k {d : Dt} : dk (d_lay d) = 0 := rfl
theorem ok_lay {d : Dt} (hO : OkD d) (hR : OkR (rdA d).2) (hL : lokB (rdA d).2 = true) : OkD (d_lay d) := by
  obtain ⟨l1, l2, l3⟩ := (lokB_iff _).mp hL
  have h1 := (miB_iff _).mp l1
  have h2 := (asB_iff _).mp l2
  unfold OkD
  rw [dl_n, dl_B, dl_g, dl_b, dl_L, dl_h, dl_u, dl_k, dl_1, dl_2, dl_3, dl_4, dl_row (q := 5) (by decide) (by decide), dl_hi (q := 6) (by decide)]
  refine ⟨⟨l3, hR.1.1, hR.1.2.1, hR.1.2.2, Nat.two_pow_pos _, hO.1.2.2.2.2.2.1, by omega, by omega, by omega⟩, fun i hi => ?_, fun b hb => h2 b hb, (sk_perm hR).2, hO.2.2.2.2.1, fun j hj => by omega, fun j hj => by omega, fun j hj => by omega⟩
  have := hR.2.1 i hi
  exact ⟨this.1, h1 i hi, this.2.2⟩
-- the class
theorem c_names1 {D : Dt} {σ : Sg} (hR : OkR D) (hD : DrC σ D) : ∀ (r k : Nat), k + r = D 0 0 → (∀ i, i < k → D 2 i < D 0 0) → Run 7 2 [vR 14, vI k] [] σ = if miB D = true then Run 7 33 [vR 14, vI 0] [] σ else some (vI 0, σ)
  | 0, k, h, hk => by
    have hn := hR.1.1
    have e : k = D 0 0 := by omega
    rw [q7_2, hD.1.1, wr_id (x := (k : Int)) (by omega) (by omega), wr_id (x := ((D 0 0 : Nat) : Int)) (by omega) (by omega), if_neg (by omega), if_pos ((miB_iff D).mpr (by rw [← e]; rw [← e] at hk; exact hk))]
  | r + 1, k, h, hk => by
    have hn := hR.1.1
    have h2 := (hR.2.1 k (by omega)).2.1
    rw [q7_2, hD.1.1, wr_id (x := (k : Int)) (by omega) (by omega), wr_id (x := ((D 0 0 : Nat) : Int)) (by omega) (by omega), if_pos (by omega), if_pos (by omega), toN, (hD.2.1 k (by omega)).2.1, wr_id (x := ((D 2 k : Nat) : Int)) (by omega) (by omega)]
    by_cases c : D 2 k < D 0 0
    · rw [if_pos (by omega)]
      exact c_names1 hR hD r (k + 1) (by omega) (fun i hi => by
        rcases (show i < k ∨ i = k by omega) with g | g
        · exact hk i g
        · rw [g]; exact c)
    · rw [if_neg (by omega), if_pos (Or.inl rfl), if_neg (fun z => c ((miB_iff D).mp z k (by omega)))]
theorem c_names2 {D : Dt} {σ : Sg} (hR : OkR D) (hD : DrC σ D) : ∀ (r k : Nat), k + r = D 0 1 → (∀ b, b < k → D 4 b < 2 ^ D 0 0) → Run 7 33 [vR 14, vI k] [] σ = some (vI (if asB D = true ∧ 0 < D 0 0 then 1 else 0), σ)
  | 0, k, h, hk => by
    have hB := hR.1.2.1
    have hn := hR.1.1
    have e : k = D 0 1 := by omega
    have ha : asB D = true := (asB_iff D).mpr (by rw [← e]; exact hk)
    rw [q7_33, hD.1.2.1, hD.1.1, wr_id (x := (k : Int)) (by omega) (by omega), wr_id (x := ((D 0 1 : Nat) : Int)) (by omega) (by omega), wr_id (x := ((D 0 0 : Nat) : Int)) (by omega) (by omega), if_neg (by omega), if_pos (Or.inr rfl), if_pos (Or.inl rfl)]
    by_cases c : 0 < D 0 0
    · rw [if_pos (by omega), if_pos ⟨ha, c⟩]
    · rw [if_neg (by omega), if_neg (fun z => c z.2)]
  | r + 1, k, h, hk => by
    have hB := hR.1.2.1
    have hn := hR.1.1
    have h4 := hR.2.2.1 k (by omega)
    have l1 := Nat.div_le_self (D 4 k) (2 ^ D 0 0)
    rw [q7_33, hD.1.2.1, hD.1.1, wr_id (x := (k : Int)) (by omega) (by omega), wr_id (x := ((D 0 1 : Nat) : Int)) (by omega) (by omega), if_pos (by omega), if_pos (by omega), toN, hD.2.2.1 k (by omega), bsr_n (D 4 k) (D 0 0) (by omega) (by omega)]
    have hz := Nat.div_eq_zero_iff_lt (x := D 4 k) (Nat.two_pow_pos (D 0 0))
    generalize D 4 k / 2 ^ D 0 0 = z at l1 hz ⊢
    rw [wr_id (x := (z : Int)) (by omega) (by omega)]
    by_cases c : D 4 k < 2 ^ D 0 0
    · have := hz.mpr c
      rw [if_pos (by omega)]
      exact c_names2 hR hD r (k + 1) (by omega) (fun i hi => by
        rcases (show i < k ∨ i = k by omega) with g | g
        · exact hk i g
        · rw [g]; exact c)
    · have : z ≠ 0 := fun w => c (hz.mp w)
      rw [if_neg (by omega), if_pos (Or.inl rfl), if_neg (fun w => c ((asB_iff D).mp w.1 k (by omega)))]
theorem c_names {D : Dt} {σ : Sg} (hR : OkR D) (hD : DrC σ D) : Cal 7 [vR 14] σ = some (vI (if lokB D = true then 1 else 0), σ) := by
  have e0 : Cal 7 [vR 14] σ = _ := (q7_0 σ).trans (c_names1 hR hD (D 0 0) 0 (by omega) (fun i hi => by omega))
  have e1 : Run 7 33 [vR 14, vI 0] [] σ = _ := c_names2 hR hD (D 0 1) 0 (by omega) (fun i hi => by omega)
  rw [e1] at e0
  rw [e0]
  by_cases c1 : miB D = true
  · rw [if_pos c1]
    by_cases c2 : asB D = true ∧ 0 < D 0 0
    · rw [if_pos c2, if_pos ((lokB_iff D).mpr ⟨c1, c2⟩)]
    · rw [if_neg c2, if_neg (fun z => c2 ((lokB_iff D).mp z).2)]
  · rw [if_neg c1, if_neg (fun z => c1 ((lokB_iff D).mp z).1)]
theorem c_seat_loop {D : Dt} (hR : OkR D) : ∀ (r k : Nat) (σ : Sg), k + r = D 0 0 → σ 20 3 = ((D 0 0 : Nat) : Int) → (∀ s, s < seatK D k 0 3 → σ 1 s = ((seatK D k 5 s : Nat) : Int)) → ∃ σ', Run 8 25 [vR 20, vR 1, vI ((mkD D : Nat) : Int), vI ((seatK D k 0 3 : Nat) : Int), vI k] [] σ = some (vI 0, σ') ∧ (∀ q, q ≠ 1 → σ' q = σ q) ∧ (∀ s, s < seatK D (D 0 0) 0 3 → σ' 1 s = ((seatK D (D 0 0) 5 s : Nat) : Int))
  | 0, k, σ, h, h20, hs => by
    have hn := hR.1.1
    have e : k = D 0 0 := by omega
    refine ⟨σ, ?_, fun _ _ => rfl, by rw [← e]; exact hs⟩
    rw [q8_25, h20, wr_id (x := (k : Int)) (by omega) (by omega), wr_id (x := ((D 0 0 : Nat) : Int)) (by omega) (by omega), if_neg (by omega)]
  | r + 1, k, σ, h, h20, hs => by
    have hn := hR.1.1
    have w7 : wr 7 = 7 := by decide
    have hkS := (sk_ok hR k (by omega)).2.2.2
    have hm7 : seatK D k 0 3 ≤ 7 := by have := hkS.2.2; omega
    have lm : mkD D < 2 ^ 7 := tsM_lt _ (fun s hs => by have := hR.2.2.2.1 s hs; omega)
    have e0 := q8_25 ((mkD D : Nat) : Int) ((seatK D k 0 3 : Nat) : Int) (k : Int) σ
    rw [h20, wr_id (x := (k : Int)) (by omega) (by omega), wr_id (x := ((D 0 0 : Nat) : Int)) (by omega) (by omega), if_pos (show (k : Int) < ((D 0 0 : Nat) : Int) by omega), w7, wr_id (x := ((seatK D k 0 3 : Nat) : Int)) (by omega) (by omega)] at e0
    have hbit : (mkD (seatK D k)).testBit k = (mkD D).testBit k := by
      rw [sk_bit]
      simp
    by_cases c7 : seatK D k 0 3 < 7
    · rw [if_pos (show ((seatK D k 0 3 : Nat) : Int) < 7 by omega)] at e0
      have eS : seatK D (k + 1) = addS (seatK D k) k := rfl
      by_cases c : (mkD D).testBit k = true
      · rw [if_neg (fun z => by rw [(bit_0 _ k (by omega) (by omega)).mp z] at c; cases c)] at e0
        have eS2 : seatK D (k + 1) = seatK D k := by
          rw [eS]
          have z2 : (tsM (seatK D k 5) (seatK D k 0 3)).testBit k = true := hbit.trans c
          unfold addS
          rw [if_pos z2]
        obtain ⟨σ', t1, t2, t3⟩ := c_seat_loop hR r (k + 1) σ (by omega) h20 (by rw [eS2]; exact hs)
        rw [eS2] at t1
        exact ⟨σ', e0.trans t1, t2, t3⟩
      · have c' : (mkD D).testBit k = false := by simpa using c
        rw [if_pos ((bit_0 _ k (by omega) (by omega)).mpr c'), if_pos (show 0 ≤ ((seatK D k 0 3 : Nat) : Int) ∧ ((seatK D k 0 3 : Nat) : Int) < 7 by omega), toN] at e0
        have eS2 : seatK D (k + 1) = uq (uq (seatK D k) 5 (seatK D k 0 3) k) 0 3 (seatK D k 0 3 + 1) := by
          rw [eS]
          have z2 : ¬ (tsM (seatK D k 5) (seatK D k 0 3)).testBit k = true := fun z => by
            have z2 := hbit.symm.trans z
            rw [c'] at z2
            cases z2
          unfold addS
          rw [if_neg z2]
        have e3 : seatK D (k + 1) 0 3 = seatK D k 0 3 + 1 := by rw [eS2, dq_e]
        have e5 : ∀ s, seatK D (k + 1) 5 s = if s = seatK D k 0 3 then k else seatK D k 5 s := fun s => by
          rw [eS2, dq_q _ _ _ _ (by decide), dq_j]
        obtain ⟨σ', t1, t2, t3⟩ := c_seat_loop hR r (k + 1) (up σ 1 (seatK D k 0 3) (k : Int)) (by omega) (by rw [up_ne (by decide)]; exact h20) (fun s hs2 => by
          rw [e3] at hs2
          rw [e5, up_j]
          by_cases g : s = seatK D k 0 3
          · rw [if_pos g, if_pos g]
          · rw [if_neg g, if_neg g]
            exact hs s (by omega))
        rw [e3] at t1
        exact ⟨σ', e0.trans t1, fun q hq => by rw [t2 q hq, up_ne hq], t3⟩
    · rw [if_neg (show ¬ ((seatK D k 0 3 : Nat) : Int) < 7 by omega)] at e0
      have := sk_full hR (by omega : k ≤ D 0 0) (by omega : seatK D k 0 3 = 7) (r + 1) (by omega)
      rw [h] at this
      exact ⟨σ, e0, fun _ _ => rfl, by rw [this]; exact hs⟩
