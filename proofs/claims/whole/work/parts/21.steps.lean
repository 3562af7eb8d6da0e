/-! change, bribe, undo, in the class -/
theorem BandI.to {σ : Sg} {d d' : Dt} (h : BandI σ d) (en : dn d' = dn d) (eB : dB d' = dB d) (eg : dg d' = dg d) (r1 : d' 1 = d 1) (r2 : d' 2 = d 2) (r3 : d' 3 = d 3) (r4 : d' 4 = d 4) : BandI σ d' := by
  unfold BandI
  rw [en, eB, eg, r1, r2, r3, r4]
  exact h
theorem TextI.to {σ : Sg} {d d' : Dt} (h : TextI σ d) (eL : dL d' = dL d) (r6 : d' 6 = d 6) : TextI σ d' := by
  unfold TextI
  rw [eL, r6]
  exact h
theorem HeardI.to {σ : Sg} {d d' : Dt} (h : HeardI σ d) (eh : dh d' = dh d) (r7 : d' 7 = d 7) (r8 : d' 8 = d 8) (r9 : d' 9 = d 9) : HeardI σ d' := by
  unfold HeardI
  rw [eh, r7, r8, r9]
  exact h
/-- a step's new store beside the old one -/
def Stp2 (d d' : Dt) : Prop := dn d' = dn d ∧ dB d' = dB d ∧ dg d' = dg d ∧ dL d' = dL d ∧ dh d' = dh d ∧ (∀ q, q ≠ 0 → q ≠ 5 → q < 20 → d' q = d q)
theorem stp_push (d : Dt) (f : Nat → Nat) (b : Nat) : Stp2 d (setS (pushD d) f b) := ⟨(setS_0 (by decide)).trans (pushD_0 (by decide)), (setS_0 (by decide)).trans (pushD_0 (by decide)), (setS_0 (by decide)).trans (pushD_0 (by decide)), (setS_0 (by decide)).trans (pushD_0 (by decide)), (setS_0 (by decide)).trans (pushD_0 (by decide)), fun q h0 h5 h => (setS_row h0 h5).trans (pushD_row h0 (Or.inl h))⟩
/-- seats and bribes are as in d', what is beside untouched: settle() makes it whole -/
theorem inv_settle {d d' : Dt} {σ τ : Sg} (hO' : OkD d') (hI : InvC σ d) (hs : Stp2 d d') (hS : SeatI τ d') (f : ∀ q, q ≠ 0 → q ≠ 1 → q ≠ 3 → q ≠ 8 → q ≠ 9 → q ≠ 10 → τ q = σ q) (f13 : τ 0 13 = σ 0 13) (hK : KeptI τ d') (hU : UndoI τ d') :
    ∃ σ', Cal 30 [vR 0] τ = some (vI 0, σ') ∧ InvC σ' d' ∧ (∀ q, q ≠ 26 → q ≠ 27 → q ≠ 28 → q ≠ 29 → σ' q = τ q) := by
  obtain ⟨b1, b2, b3, b4, b5, b6, b7, b8⟩ := hI
  obtain ⟨en, eB, eg, eL, eh, er⟩ := hs
  have z1 : BandI τ d := b1.kept (f _ (by decide) (by decide) (by decide) (by decide) (by decide) (by decide)) (f _ (by decide) (by decide) (by decide) (by decide) (by decide) (by decide)) (f _ (by decide) (by decide) (by decide) (by decide) (by decide) (by decide)) (f _ (by decide) (by decide) (by decide) (by decide) (by decide) (by decide)) (f _ (by decide) (by decide) (by decide) (by decide) (by decide) (by decide))
  have z1' : BandI τ d' := z1.to en eB eg (er 1 (by decide) (by decide) (by decide)) (er 2 (by decide) (by decide) (by decide)) (er 3 (by decide) (by decide) (by decide)) (er 4 (by decide) (by decide) (by decide))
  obtain ⟨σ', r1, r2, r3, r4⟩ := c_settle hO' z1' hS
  have k : ∀ q, q ≠ 26 → q ≠ 27 → q ≠ 28 → q ≠ 29 → q ≠ 0 → q ≠ 1 → q ≠ 3 → q ≠ 8 → q ≠ 9 → q ≠ 10 → σ' q = σ q := fun q a1 a2 a3 a4 a5 a6 a7 a8 a9 a10 => (r2 q a1 a2 a3 a4).trans (f q a5 a6 a7 a8 a9 a10)
  have k0 : σ' 0 = τ 0 := r2 0 (by decide) (by decide) (by decide) (by decide)
  have z4 : TextI σ' d := b4.kept (congrFun (k 11 (by decide) (by decide) (by decide) (by decide) (by decide) (by decide) (by decide) (by decide) (by decide) (by decide)) _) (k _ (by decide) (by decide) (by decide) (by decide) (by decide) (by decide) (by decide) (by decide) (by decide) (by decide))
  have z5 : HeardI σ' d := b5.kept (by rw [k0, f13]) (k _ (by decide) (by decide) (by decide) (by decide) (by decide) (by decide) (by decide) (by decide) (by decide) (by decide)) (k _ (by decide) (by decide) (by decide) (by decide) (by decide) (by decide) (by decide) (by decide) (by decide) (by decide)) (k _ (by decide) (by decide) (by decide) (by decide) (by decide) (by decide) (by decide) (by decide) (by decide) (by decide))
  have y1 : BandI σ' d' := z1'.kept (r2 _ (by decide) (by decide) (by decide) (by decide)) (r2 _ (by decide) (by decide) (by decide) (by decide)) (r2 _ (by decide) (by decide) (by decide) (by decide)) (r2 _ (by decide) (by decide) (by decide) (by decide)) (r2 _ (by decide) (by decide) (by decide) (by decide))
  have y2 : SeatI σ' d' := hS.kept (r2 _ (by decide) (by decide) (by decide) (by decide)) (by rw [k0])
  have y6 : KeptI σ' d' := hK.kept (by rw [k0]) (r2 _ (by decide) (by decide) (by decide) (by decide)) (r2 _ (by decide) (by decide) (by decide) (by decide)) (r2 _ (by decide) (by decide) (by decide) (by decide))
  have y7 : UndoI σ' d' := hU.kept (by rw [k0]) (r2 _ (by decide) (by decide) (by decide) (by decide))
  exact ⟨σ', r1, ⟨y1, y2, r3, z4.to eL (er 6 (by decide) (by decide) (by decide)), z5.to eh (er 7 (by decide) (by decide) (by decide)) (er 8 (by decide) (by decide) (by decide)) (er 9 (by decide) (by decide) (by decide)), y6, y7, r4⟩, r2⟩
theorem kept_push {σ τ : Sg} {d : Dt} {f : Nat → Nat} {b : Nat} (h : KeptI σ d) (h0 : τ 0 16 = σ 0 16) (h1 : τ 8 = σ 8) (h2 : τ 9 = σ 9) (h3 : τ 10 = σ 10) : KeptI τ (setS (pushD d) f b) := by
  have z : KeptI τ d := h.kept h0 h1 h2 h3
  exact z.to ((setS_0 (by decide)).trans (pushD_0 (by decide))) ((setS_0 (by decide)).trans (pushD_0 (by decide))) (fun j => (setS_row (by omega) (by omega)).trans (pushD_row (by omega) (by omega)))
-- change
def okXY (d : Dt) (x y : Int) : Prop := (0 ≤ x ∧ x < (dn d : Int)) ∧ (0 ≤ y ∧ y < (dn d : Int)) ∧ x ≠ y
def d_change1 (d : Dt) (a b : Nat) : Dt := setS (pushD d) (swF (d 5) a b) (db d)
theorem code_ab {n a b : Nat} (hn : n ≤ 7) (ha : a < n) (hb : b < n) : codeOk n (64 + 8 * a + b) ∧ (64 + 8 * a + b) / 8 % 8 = a ∧ (64 + 8 * a + b) % 8 = b := by
  have h1 : (64 + 8 * a + b) / 8 % 8 = a := by omega
  have h2 : (64 + 8 * a + b) % 8 = b := by omega
  exact ⟨Or.inr ⟨by omega, by rw [h1]; exact ha, by rw [h2]; exact hb, by omega⟩, h1, h2⟩
theorem swF_twice (f : Nat → Nat) (a b i : Nat) : swF (swF f a b) a b i = f i := by
  unfold swF
  by_cases c1 : i = b
  · subst c1
    by_cases c2 : a = i <;> simp [c2]
  · by_cases c2 : i = a
    · subst c2; simp [c1]
    · simp [c1, c2]
theorem c_change {d : Dt} {σ : Sg} {a b : Nat} (hO : OkD d) (hI : InvC σ d) (ha : a < dn d) (hb : b < dn d) (hab : a ≠ b) : ∃ σ', Cal 49 [vR 0, vI a, vI b] σ = some (vI ((d 5 b : Nat) : Int), σ') ∧ InvC σ' (d_change1 d a b) ∧ FrC σ σ' := by
  have hn := hO.1.2.1
  have e0 : Cal 49 [vR 0, vI a, vI b] σ = _ := q49_0 a b σ
  have hxa : InR (a : Int) := ⟨by omega, by omega⟩
  have hxb : InR (b : Int) := ⟨by omega, by omega⟩
  rw [isI_c hI.1 hxa, kcI_s, if_pos (by omega : 0 ≤ (a : Int) ∧ (a : Int) < (dn d : Int)), wr_1, if_neg (by decide), isI_c hI.1 hxb, kcI_s, if_pos (by omega : 0 ≤ (b : Int) ∧ (b : Int) < (dn d : Int)), wr_1, if_neg (by decide), wr_in hxa, wr_in hxb, if_neg (by omega), show ((64 : Int) + 8 * (a : Int) + (b : Int)) = ((64 + 8 * a + b : Nat) : Int) by omega] at e0
  obtain ⟨s1, r1, r2, r3, r4, r5⟩ := c_rem (c := 64 + 8 * a + b) hO hI.2.2.2.2.2.2.1.1
  rw [r1, kcV_s, swp_c (Or.inl rfl) (by omega) (by omega), kcV_s] at e0
  obtain ⟨hc, c1, c2⟩ := code_ab hn ha hb
  obtain ⟨X, hX⟩ : ∃ X, X = up (up s1 1 a (s1 1 b)) 1 b (s1 1 a) := ⟨_, rfl⟩
  rw [← hX] at e0
  have kX : ∀ q, q ≠ 1 → X q = s1 q := fun q hq => by rw [hX, up_ne hq, up_ne hq]
  have hOk : OkD (d_change1 d a b) := ok_step hO (swF_perm hO.2.2.2.1 ha hb) hO.1.2.2.2.2.1
  have hs1 : Rep s1 1 (dn d) (d 5) := hI.2.1.1.kept (r2 _ (by decide) (by decide))
  have en : dn (d_change1 d a b) = dn d := (stp_push d _ _).1
  have hS : SeatI X (d_change1 d a b) := by
    refine ⟨?_, ?_⟩
    · rw [en, show d_change1 d a b 5 = swF (d 5) a b from setS_5, hX]
      exact hs1.sw ha hb
    · rw [show db (d_change1 d a b) = db d from setS_b, kX 0 (by decide), r3 3 (by decide)]
      exact hI.2.1.2
  have hU : UndoI X (d_change1 d a b) := by
    refine undo_step (σ := σ) (c := 64 + 8 * a + b) hO hI.2.2.2.2.2.2.1 hc (fun i _ => ?_) ?_ ?_ ?_
    · unfold baS
      rw [if_pos (by omega), c1, c2, swF_twice]
    · unfold baB
      rw [if_pos (by omega)]
    · rw [kX 0 (by decide)]; exact r4
    · rw [kX 3 (by decide)]; exact r5
  have hK : KeptI X (d_change1 d a b) := kept_push hI.2.2.2.2.2.1 (by rw [kX 0 (by decide), r3 16 (by decide)]) (by rw [kX 8 (by decide), r2 8 (by decide) (by decide)]) (by rw [kX 9 (by decide), r2 9 (by decide) (by decide)]) (by rw [kX 10 (by decide), r2 10 (by decide) (by decide)])
  obtain ⟨σ', t1, t2, t3⟩ := inv_settle hOk hI (stp_push d _ _) hS (fun q h0 h1 h3 _ _ _ => by rw [kX q h1, r2 q h0 h3]) (by rw [kX 0 (by decide), r3 13 (by decide)]) hK hU
  rw [t1, kcV_s, if_pos (by omega), toN, t2.2.1.1 a (by rw [en]; exact ha), show d_change1 d a b 5 = swF (d 5) a b from setS_5] at e0
  refine ⟨σ', e0.trans ?_, t2, fun q hq => by rw [t3 q (by omega) (by omega) (by omega) (by omega), kX q (by omega), r2 q (by omega) (by omega)]⟩
  have : swF (d 5) a b a = d 5 b := by
    unfold swF
    rw [if_neg hab, if_pos rfl]
  rw [this]
-- priceOf
def prS (d : Dt) (s : Nat) : Nat → Nat
  | 0 => 0
  | k + 1 => prS d s k + (if s.testBit k = true then d 3 k else 0)
theorem c_price_loop {d : Dt} {σ : Sg} {s : Nat} (hO : OkD d) (hB : BandI σ d) (hs : s < 2147483648) : ∀ (r k : Nat), k + r = dn d → Run 50 4 [vR 0, vI s, vI ((prS d s k : Nat) : Int), vI k] [] σ = some (vI ((prS d s (dn d) : Nat) : Int), σ)
  | 0, k, h => by
    have hn := hO.1.2.1
    have hk : k = dn d := by omega
    rw [q50_4, hB.1.1, if_neg (by rw [wr_id (by omega) (by omega), wr_id (by omega) (by omega)]; omega), hk]
  | r + 1, k, h => by
    have hn := hO.1.2.1
    have ih := c_price_loop hO hB hs r (k + 1) (by omega)
    rw [q50_4, hB.1.1, wr_id (x := (k : Int)) (by omega) (by omega), wr_id (x := (dn d : Int)) (by omega) (by omega), if_pos (by omega), if_pos (by omega), toN, hB.2.1 k (by omega), bit_n s k hs (by omega)]
    have e : ((prS d s k : Nat) : Int) + (if s.testBit k = true then 1 else 0) * ((d 3 k : Nat) : Int) = ((prS d s (k + 1) : Nat) : Int) := by
      show _ = (((prS d s k + _ : Nat)) : Int)
      split <;> simp
    rw [e]
    exact ih
theorem c_price {d : Dt} {σ : Sg} {s : Nat} (hO : OkD d) (hB : BandI σ d) (hs : s < 2147483648) : Cal 50 [vR 0, vI s] σ = some (vI ((prS d s (dn d) : Nat) : Int), σ) := (q50_0 _ σ).trans (c_price_loop hO hB hs (dn d) 0 (by omega))
theorem prS_congr {d d' : Dt} (s : Nat) (h : d' 3 = d 3) : ∀ k, prS d' s k = prS d s k
  | 0 => rfl
  | k + 1 => by unfold prS; rw [prS_congr s h k, h]
-- bribe
def d_bribe1 (d : Dt) (a : Nat) : Dt := setS (pushD d) (d 5) (db d ^^^ 2 ^ a)
theorem c_bribe {d : Dt} {σ : Sg} {a : Nat} (hO : OkD d) (hI : InvC σ d) (ha : a < dn d) : ∃ σ', Cal 51 [vR 0, vI a] σ = some (vI ((prS d (db d ^^^ 2 ^ a) (dn d) : Nat) : Int), σ') ∧ InvC σ' (d_bribe1 d a) ∧ FrC σ σ' := by
  have hn := hO.1.2.1
  have hp7 := p2_7 hn
  have hb := hO.1.2.2.2.2.1
  have e0 : Cal 51 [vR 0, vI a] σ = _ := q51_0 a σ
  have hxa : InR (a : Int) := ⟨by omega, by omega⟩
  rw [isI_c hI.1 hxa, kcI_s, if_pos (by omega : 0 ≤ (a : Int) ∧ (a : Int) < (dn d : Int)), wr_1, if_neg (by decide)] at e0
  obtain ⟨s1, r1, r2, r3, r4, r5⟩ := c_rem (c := a) hO hI.2.2.2.2.2.2.1.1
  have l2 := p2_lt ha
  have lx : db d ^^^ 2 ^ a < 2 ^ dn d := Nat.xor_lt_two_pow hb l2
  rw [r1, kcV_s, r3 3 (by decide), hI.2.1.2, bsl1_n a (by omega), bxo_n _ _ (by omega) (by omega)] at e0
  obtain ⟨X, hX⟩ : ∃ X, X = up s1 0 3 ((db d ^^^ 2 ^ a : Nat) : Int) := ⟨_, rfl⟩
  rw [← hX] at e0
  have kX : ∀ q, q ≠ 0 → X q = s1 q := fun q hq => by rw [hX, up_ne hq]
  have kX0 : ∀ j, j ≠ 3 → X 0 j = s1 0 j := fun j hj => by rw [hX, up_j, if_neg hj]
  have hOk : OkD (d_bribe1 d a) := ok_step hO hO.2.2.2.1 lx
  have en : dn (d_bribe1 d a) = dn d := (stp_push d _ _).1
  have hS : SeatI X (d_bribe1 d a) := by
    refine ⟨?_, ?_⟩
    · rw [en, show d_bribe1 d a 5 = d 5 from setS_5]
      exact hI.2.1.1.kept (by rw [kX 1 (by decide), r2 1 (by decide) (by decide)])
    · rw [show db (d_bribe1 d a) = db d ^^^ 2 ^ a from setS_b, hX, up_e]
  have hU : UndoI X (d_bribe1 d a) := by
    refine undo_step (σ := σ) (c := a) hO hI.2.2.2.2.2.2.1 (Or.inl ha) (fun i _ => ?_) ?_ ?_ ?_
    · unfold baS
      rw [if_neg (by omega)]
    · unfold baB
      rw [if_neg (by omega), Nat.xor_assoc, Nat.xor_self, Nat.xor_zero]
    · rw [kX0 9 (by decide)]; exact r4
    · rw [kX 3 (by decide)]; exact r5
  have hK : KeptI X (d_bribe1 d a) := kept_push hI.2.2.2.2.2.1 (by rw [kX0 16 (by decide), r3 16 (by decide)]) (by rw [kX 8 (by decide), r2 8 (by decide) (by decide)]) (by rw [kX 9 (by decide), r2 9 (by decide) (by decide)]) (by rw [kX 10 (by decide), r2 10 (by decide) (by decide)])
  obtain ⟨σ', t1, t2, t3⟩ := inv_settle hOk hI (stp_push d _ _) hS (fun q h0 h1 h3 _ _ _ => by rw [kX q h0, r2 q h0 h3]) (by rw [kX0 13 (by decide), r3 13 (by decide)]) hK hU
  have hb' : σ' 0 3 = ((db d ^^^ 2 ^ a : Nat) : Int) := t2.2.1.2.trans (by rw [show db (d_bribe1 d a) = db d ^^^ 2 ^ a from setS_b])
  have pr := c_price (s := db d ^^^ 2 ^ a) hOk t2.1 (by omega)
  have e3 : d_bribe1 d a 3 = d 3 := (stp_push d _ _).2.2.2.2.2 3 (by decide) (by decide) (by decide)
  rw [en, prS_congr (d := d) (d' := d_bribe1 d a) _ e3] at pr
  rw [t1, kcV_s, hb', pr, kcI_s] at e0
  exact ⟨σ', e0, t2, fun q hq => by rw [t3 q (by omega) (by omega) (by omega) (by omega), kX q (by omega), r2 q (by omega) (by omega)]⟩
