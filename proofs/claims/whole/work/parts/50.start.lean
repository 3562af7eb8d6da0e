/-! THE START: the text of the first band, laid; the reference's first band -/
def dI : Dt := fun q j => if q = 0 then (if j = 0 then 1 else if j = 4 then 67 else 0) else if q = 6 then (strL.getD j 0).toNat else 0
theorem dI_6 : ∀ j, j < 67 → ((dI 6 j : Nat) : Int) = strL.getD j 0 ∧ 32 ≤ dI 6 j ∧ dI 6 j ≤ 126 := by decide +kernel
theorem ok_I : OkD dI := by
  refine ⟨by decide, ?_, fun b hb => absurd hb (Nat.not_lt_zero b), ⟨?_, ?_, ?_⟩, fun j hj => (dI_6 j hj).2, fun j hj => absurd hj (Nat.not_lt_zero j), fun j hj => absurd hj (Nat.not_lt_zero j), fun j hj => absurd hj (Nat.not_lt_zero j)⟩
  · intro i hi
    have h0 : i < 1 := hi
    have : i = 0 := by omega
    subst this
    decide
  · intro s hs
    exact Nat.zero_lt_one
  · intro s t hs ht _
    have h0 : s < 1 := hs
    have h1 : t < 1 := ht
    omega
  · intro v hv
    have h0 : v < 1 := hv
    exact ⟨0, Nat.zero_lt_one, by have : v = 0 := by omega
                                  subst this
                                  rfl⟩
theorem it_I {p e a b c : Nat} {D : Dt} (h : dI 6 p = 105) (h1 : isN dI (p + 1) 44 = true) (h2 : isN dI (nxt dI (p + 1)) 44 = true) (h3 : isN dI (nxt dI (nxt dI (p + 1))) 59 = true) (hn : D 0 0 < 7) (ha : nmb dI (p + 1) = a) (hb : nmb dI (nxt dI (p + 1)) = b) (hc : nmb dI (nxt dI (nxt dI (p + 1))) = c) (ha4 : a < 4) (hb7 : b < 7) (hc30 : c ≤ 30) (he : nxt dI (nxt dI (nxt dI (p + 1))) = e) : rdIt dI p D = some (e, addI D a b c) := by
  subst ha; subst hb; subst hc; subst he
  unfold rdIt
  rw [if_pos h, if_pos ⟨⟨h1, h2, h3⟩, hn, ha4, hb7, hc30⟩]
theorem it_B {p e a b : Nat} {D : Dt} (h : dI 6 p = 98) (h1 : isN dI (p + 1) 44 = true) (h2 : isN dI (nxt dI (p + 1)) 59 = true) (hn : D 0 1 < 8) (ha : nmb dI (p + 1) = a) (hb : nmb dI (nxt dI (p + 1)) = b) (ha4 : a ≤ 15) (hb7 : b ≤ 7) (he : nxt dI (nxt dI (p + 1)) = e) : rdIt dI p D = some (e, addB D a b) := by
  subst ha; subst hb; subst he
  unfold rdIt
  rw [if_neg (by omega), if_pos h, if_pos ⟨⟨h1, h2⟩, hn, ha4, hb7⟩]
theorem it_S {p e a : Nat} {D : Dt} (h : dI 6 p = 115) (h1 : isN dI (p + 1) 59 = true) (ha : nmb dI (p + 1) = a) (hn : a < D 0 0) (he : nxt dI (p + 1) = e) : rdIt dI p D = some (e, addS D a) := by
  subst ha; subst he
  unfold rdIt
  rw [if_neg (by omega), if_neg (by omega), if_pos h, if_pos ⟨h1, hn⟩]
theorem it_G {p e a : Nat} {D : Dt} (h : dI 6 p = 103) (h1 : isN dI (p + 1) 59 = true) (ha : nmb dI (p + 1) = a) (hn : a ≤ 5) (he : nxt dI (p + 1) = e) : rdIt dI p D = some (e, addG D a) := by
  subst ha; subst he
  unfold rdIt
  rw [if_neg (by omega), if_neg (by omega), if_neg (by omega), if_pos h, if_pos ⟨h1, hn⟩]
def DD1 : Dt := addI D0 0 0 2
def DD2 : Dt := addI DD1 1 2 5
def DD3 : Dt := addI DD2 2 0 3
def DD4 : Dt := addI DD3 3 3 4
def DD5 : Dt := addI DD4 1 0 6
def DD6 : Dt := addB DD5 15 1
def DD7 : Dt := addB DD6 5 1
def DD8 : Dt := addB DD7 14 0
def DD9 : Dt := addB DD8 11 1
def DD10 : Dt := addS DD9 2
def DD11 : Dt := addS DD10 0
def DD12 : Dt := addG DD11 2
theorem it_1 : rdIt dI 0 D0 = some (7, DD1) := it_I (by decide +kernel) (by decide +kernel) (by decide +kernel) (by decide +kernel) (by decide +kernel) (by decide +kernel) (by decide +kernel) (by decide +kernel) (by decide) (by decide) (by decide) (by decide +kernel)
theorem it_2 : rdIt dI 7 DD1 = some (14, DD2) := it_I (by decide +kernel) (by decide +kernel) (by decide +kernel) (by decide +kernel) (by decide +kernel) (by decide +kernel) (by decide +kernel) (by decide +kernel) (by decide) (by decide) (by decide) (by decide +kernel)
theorem it_3 : rdIt dI 14 DD2 = some (21, DD3) := it_I (by decide +kernel) (by decide +kernel) (by decide +kernel) (by decide +kernel) (by decide +kernel) (by decide +kernel) (by decide +kernel) (by decide +kernel) (by decide) (by decide) (by decide) (by decide +kernel)
theorem it_4 : rdIt dI 21 DD3 = some (28, DD4) := it_I (by decide +kernel) (by decide +kernel) (by decide +kernel) (by decide +kernel) (by decide +kernel) (by decide +kernel) (by decide +kernel) (by decide +kernel) (by decide) (by decide) (by decide) (by decide +kernel)
theorem it_5 : rdIt dI 28 DD4 = some (35, DD5) := it_I (by decide +kernel) (by decide +kernel) (by decide +kernel) (by decide +kernel) (by decide +kernel) (by decide +kernel) (by decide +kernel) (by decide +kernel) (by decide) (by decide) (by decide) (by decide +kernel)
theorem it_6 : rdIt dI 35 DD5 = some (41, DD6) := it_B (by decide +kernel) (by decide +kernel) (by decide +kernel) (by decide +kernel) (by decide +kernel) (by decide +kernel) (by decide) (by decide) (by decide +kernel)
theorem it_7 : rdIt dI 41 DD6 = some (46, DD7) := it_B (by decide +kernel) (by decide +kernel) (by decide +kernel) (by decide +kernel) (by decide +kernel) (by decide +kernel) (by decide) (by decide) (by decide +kernel)
theorem it_8 : rdIt dI 46 DD7 = some (52, DD8) := it_B (by decide +kernel) (by decide +kernel) (by decide +kernel) (by decide +kernel) (by decide +kernel) (by decide +kernel) (by decide) (by decide) (by decide +kernel)
theorem it_9 : rdIt dI 52 DD8 = some (58, DD9) := it_B (by decide +kernel) (by decide +kernel) (by decide +kernel) (by decide +kernel) (by decide +kernel) (by decide +kernel) (by decide) (by decide) (by decide +kernel)
theorem it_10 : rdIt dI 58 DD9 = some (61, DD10) := it_S (by decide +kernel) (by decide +kernel) (by decide +kernel) (by decide +kernel) (by decide +kernel)
theorem it_11 : rdIt dI 61 DD10 = some (64, DD11) := it_S (by decide +kernel) (by decide +kernel) (by decide +kernel) (by decide +kernel) (by decide +kernel)
theorem it_12 : rdIt dI 64 DD11 = some (67, DD12) := it_G (by decide +kernel) (by decide +kernel) (by decide +kernel) (by decide) (by decide +kernel)
theorem dI_L : dL dI = 67 := rfl
theorem rda_I : rdA dI = (-4, DD12) := by
  have hp : ∀ p, p < 67 → p < dL dI := fun p h => h
  have h1 := rdAll_s (d := dI) (r := 199) (hp 0 (by decide)) it_1
  have h2 := rdAll_s (d := dI) (r := 198) (hp 7 (by decide)) it_2
  have h3 := rdAll_s (d := dI) (r := 197) (hp 14 (by decide)) it_3
  have h4 := rdAll_s (d := dI) (r := 196) (hp 21 (by decide)) it_4
  have h5 := rdAll_s (d := dI) (r := 195) (hp 28 (by decide)) it_5
  have h6 := rdAll_s (d := dI) (r := 194) (hp 35 (by decide)) it_6
  have h7 := rdAll_s (d := dI) (r := 193) (hp 41 (by decide)) it_7
  have h8 := rdAll_s (d := dI) (r := 192) (hp 46 (by decide)) it_8
  have h9 := rdAll_s (d := dI) (r := 191) (hp 52 (by decide)) it_9
  have h10 := rdAll_s (d := dI) (r := 190) (hp 58 (by decide)) it_10
  have h11 := rdAll_s (d := dI) (r := 189) (hp 61 (by decide)) it_11
  have h12 := rdAll_s (d := dI) (r := 188) (hp 64 (by decide)) it_12
  have h13 := rdAll_e (d := dI) (p := 67) (D := DD12) (Nat.le_refl 67) 188
  exact h1.trans (h2.trans (h3.trans (h4.trans (h5.trans (h6.trans (h7.trans (h8.trans (h9.trans (h10.trans (h11.trans (h12.trans h13)))))))))))
theorem lok_12 : lokB DD12 = true := by decide +kernel
def Z0 : Sg := fun _ _ => 0
/-- what holds behind the constructors -/
def d1 : Dt := uq (d_lay dI) 0 4 0
theorem x4_step {σ : Sg} {k : Nat} (hk : k < 67) (h1 : σ 11 1 = (k : Int)) : Cal 14 [vR 11, vI (strL.getD k 0)] σ = some (vI 1, up (up σ 12 k (strL.getD k 0)) 11 1 ((k + 1 : Nat) : Int)) := by
  have hb := dI_6 k hk
  have e1 : Cal 14 [vR 11, vI (strL.getD k 0)] σ = _ := q14_0 (strL.getD k 0) σ
  rw [h1, wr_id (x := 200) (by omega) (by omega), wr_id (x := (k : Int)) (by omega) (by omega), if_pos (by omega), if_pos (by omega), if_pos (Or.inr rfl), toN, up_p _ _ _ (by decide), h1] at e1
  rw [show ((k + 1 : Nat) : Int) = (k : Int) + 1 by omega]
  exact e1
theorem x4_loop : ∀ (r k : Nat) (σ : Sg), k + r = 67 → σ 11 1 = (k : Int) → (∀ j, j < k → σ 12 j = ((dI 6 j : Nat) : Int)) → ∃ σ', Run 32 127 [vR 0, vI k] [] σ = Run 32 127 [vR 0, vI ((67 : Nat) : Int)] [] σ' ∧ TextI σ' dI ∧ FrC σ σ'
  | 0, k, σ, h, h1, h2 => by
    have hk : k = 67 := by omega
    subst hk
    exact ⟨σ, rfl, ⟨h1, h2⟩, FrC.rf σ⟩
  | r + 1, k, σ, h, h1, h2 => by
    have hk : k < 67 := by omega
    obtain ⟨σ', a1, a2, a3⟩ := x4_loop r (k + 1) (up (up σ 12 k (strL.getD k 0)) 11 1 ((k + 1 : Nat) : Int)) (by omega) (by simp [up_at]) (fun j hj => by
      rw [up_p _ _ _ (by decide), up_j]
      by_cases c : j = k
      · rw [if_pos c, c, (dI_6 k hk).1]
      · rw [if_neg c]
        exact h2 j (by omega))
    refine ⟨σ', ?_, a2, fun q hq => by rw [a3 q hq, up_ne (by omega), up_ne (by omega)]⟩
    rw [q32_127, wr_id (x := (k : Int)) (by omega) (by omega), wr_id (x := 67) (by omega) (by omega), if_pos (by omega), if_pos (by omega), toN, x4_step hk h1, kcI_s]
    rw [show (k : Int) + 1 = ((k + 1 : Nat) : Int) by omega]
    exact a1
theorem stt_c : ∃ σ1, Run 32 125 [vR 0, vJ] [] Z0 = some (vI 0, σ1) ∧ InvC σ1 d1 ∧ OkD d1 ∧ FrC Z0 σ1 := by
  obtain ⟨σ1, a1, a2, a3⟩ := x4_loop 67 0 Z0 (by omega) rfl (fun j hj => absurd hj (Nat.not_lt_zero j))
  obtain ⟨σ2, b1, b2, b3, b4⟩ := (c_layText ok_I a2).1 ⟨by rw [rda_I], by rw [rda_I]; exact lok_12⟩
  obtain ⟨-, c2, c3⟩ := c_wipe b2
  refine ⟨up σ2 11 1 0, ?_, c2, ok_wipe b4, (a3.tr b3).tr c3⟩
  have e0 : Run 32 127 [vR 0, vI 0] [] Z0 = Run 32 127 [vR 0, vI ((67 : Nat) : Int)] [] σ1 := a1
  rw [q32_125, e0, q32_127, wr_id (x := ((67 : Nat) : Int)) (by omega) (by omega), wr_id (x := 67) (by omega) (by omega), if_neg (by omega), b1, kcI_s]
theorem invM_laid0 {d : Dt} {σ : Sg} (hR : OkR (rdA d).2) (hL : lokB (rdA d).2 = true) (hT : σ 40 1 = 0) (h : LaidM σ (rdA d).2) : InvM σ (uq (d_lay d) 0 4 0) := by
  obtain ⟨⟨d1, d2, d3⟩, d5, d6, d7, d8, d9, d10, d11⟩ := h
  obtain ⟨l1, l2, l3⟩ := (lokB_iff _).mp hL
  have h1 := (miB_iff _).mp l1
  have h2 := (asB_iff _).mp l2
  have eq : ∀ q, q ≠ 0 → uq (d_lay d) 0 4 0 q = d_lay d q := fun q hq => funext fun j => dq_q _ _ _ _ hq
  have kn : dn (uq (d_lay d) 0 4 0) = (rdA d).2 0 0 := rfl
  have kB : dB (uq (d_lay d) 0 4 0) = (rdA d).2 0 1 := rfl
  have kg : dg (uq (d_lay d) 0 4 0) = (rdA d).2 0 2 := rfl
  have kb : db (uq (d_lay d) 0 4 0) = 0 := rfl
  have kL : dL (uq (d_lay d) 0 4 0) = 0 := rfl
  have kh : dh (uq (d_lay d) 0 4 0) = 0 := rfl
  have ku : du (uq (d_lay d) 0 4 0) = 0 := rfl
  have kk : dk (uq (d_lay d) 0 4 0) = 0 := rfl
  unfold InvM ToldM
  rw [kn, kB, kg, kb, kL, kh, ku, kk, eq 1 (by decide), eq 2 (by decide), eq 3 (by decide), eq 4 (by decide), eq 5 (by decide), dl_1, dl_2, dl_3, dl_4, dl_row (q := 5) (by decide) (by decide)]
  exact ⟨⟨d1, hR.1.1, d2, hR.1.2.1, fun i hi => ⟨(d5 i hi).2.1, h1 i hi⟩, fun b hb => ⟨d6 b hb, h2 b hb⟩⟩, fun i hi => ⟨(d5 i hi).1, (d5 i hi).2.2⟩, d3, ⟨d7, d8⟩, ⟨hT, fun j hj => absurd hj (Nat.not_lt_zero j)⟩, ⟨d9, fun j hj => absurd hj (Nat.not_lt_zero j)⟩, ⟨d10, fun j hj => absurd hj (Nat.not_lt_zero j)⟩, d11, fun j hj => absurd hj (Nat.not_lt_zero j)⟩
theorem rr_1 : OkR DD1 := OkR.D0.I (by decide) (by decide) (by decide) (by decide)
theorem rr_2 : OkR DD2 := rr_1.I (by decide +kernel) (by decide) (by decide) (by decide)
theorem rr_3 : OkR DD3 := rr_2.I (by decide +kernel) (by decide) (by decide) (by decide)
theorem rr_4 : OkR DD4 := rr_3.I (by decide +kernel) (by decide) (by decide) (by decide)
theorem rr_5 : OkR DD5 := rr_4.I (by decide +kernel) (by decide) (by decide) (by decide)
theorem rr_6 : OkR DD6 := rr_5.B (by decide +kernel) (by decide) (by decide)
theorem rr_7 : OkR DD7 := rr_6.B (by decide +kernel) (by decide) (by decide)
theorem rr_8 : OkR DD8 := rr_7.B (by decide +kernel) (by decide) (by decide)
theorem rr_9 : OkR DD9 := rr_8.B (by decide +kernel) (by decide) (by decide)
theorem rr_10 : OkR DD10 := rr_9.S (by decide +kernel)
theorem rr_11 : OkR DD11 := rr_10.S (by decide +kernel)
theorem rr_12 : OkR DD12 := rr_11.G (by decide)
theorem dm_9 {σ : Sg} (h : DrM σ DD5) : DrM (up (up (up (up (up σ 43 25 31) 43 26 21) 43 27 14) 43 28 27) 43 1 4) DD9 := by
  obtain ⟨⟨h1, h2, h3, h4⟩, h5, h6, h7⟩ := h
  have n5 : DD5 0 0 = 5 := by decide +kernel
  have n9 : DD9 0 0 = 5 := by decide +kernel
  have b9 : DD9 0 1 = 4 := by decide +kernel
  have g5 : DD5 0 2 = 0 := by decide +kernel
  have g9 : DD9 0 2 = 0 := by decide +kernel
  have s5 : DD5 0 3 = 0 := by decide +kernel
  have s9 : DD9 0 3 = 0 := by decide +kernel
  have e1 : ∀ q, q ≠ 0 → q ≠ 4 → DD9 q = DD5 q := fun q q0 q4 => funext fun j => by
    unfold DD9 DD8 DD7 DD6
    rw [aB_q q0 q4, aB_q q0 q4, aB_q q0 q4, aB_q q0 q4]
  have u : ∀ j, up (up (up (up (up σ 43 25 31) 43 26 21) 43 27 14) 43 28 27) 43 1 4 43 j = if j = 1 then 4 else if j = 28 then 27 else if j = 27 then 14 else if j = 26 then 21 else if j = 25 then 31 else σ 43 j := fun j => by
    rw [up_j, up_j, up_j, up_j, up_j]
  rw [n5] at h1 h5
  rw [g5] at h3
  rw [s5] at h4
  refine ⟨⟨?_, ?_, ?_, ?_⟩, fun i hi => ?_, fun b hb => ?_, fun s hs => ?_⟩
  · rw [u, n9]
    simpa using h1
  · rw [u, b9]
    rfl
  · rw [u, g9]
    simpa using h3
  · rw [u, s9]
    simpa using h4
  · rw [n9] at hi
    have := h5 i hi
    rw [u, u, u, e1 1 (by decide) (by decide), e1 2 (by decide) (by decide), e1 3 (by decide) (by decide)]
    rw [if_neg (by omega), if_neg (by omega), if_neg (by omega), if_neg (by omega), if_neg (by omega), if_neg (by omega), if_neg (by omega), if_neg (by omega), if_neg (by omega), if_neg (by omega), if_neg (by omega), if_neg (by omega), if_neg (by omega), if_neg (by omega), if_neg (by omega)]
    exact this
  · rw [b9] at hb
    rw [u]
    rcases (show b = 0 ∨ b = 1 ∨ b = 2 ∨ b = 3 by omega) with rfl | rfl | rfl | rfl
    · exact (by decide +kernel : (31 : Int) = ((DD9 4 0 : Nat) : Int))
    · exact (by decide +kernel : (21 : Int) = ((DD9 4 1 : Nat) : Int))
    · exact (by decide +kernel : (14 : Int) = ((DD9 4 2 : Nat) : Int))
    · exact (by decide +kernel : (27 : Int) = ((DD9 4 3 : Nat) : Int))
  · rw [s9] at hs
    exact absurd hs (Nat.not_lt_zero s)
theorem dm_12 {σ : Sg} (h : DrM σ DD11) : DrM (up σ 43 3 4) DD12 := by
  obtain ⟨⟨h1, h2, h3, h4⟩, h5, h6, h7⟩ := h
  have e1 : ∀ q, q ≠ 0 → DD12 q = DD11 q := fun q q0 => funext fun j => by
    unfold DD12
    rw [aG_q q0]
  have e0 : ∀ j, j ≠ 2 → DD12 0 j = DD11 0 j := fun j hj => by
    unfold DD12
    rw [aG_0, if_neg hj]
  have n11 : DD11 0 0 = 5 := by decide +kernel
  have b11 : DD11 0 1 = 4 := by decide +kernel
  have g12 : DD12 0 2 = 4 := by decide +kernel
  have s11 : DD11 0 3 = 2 := by decide +kernel
  unfold DrM
  rw [e0 0 (by decide), e0 1 (by decide), e0 3 (by decide), e1 1 (by decide), e1 2 (by decide), e1 3 (by decide), e1 4 (by decide), e1 5 (by decide), g12]
  refine ⟨⟨?_, ?_, ?_, ?_⟩, fun i hi => ?_, fun b hb => ?_, fun s hs => ?_⟩
  · rw [up_j, if_neg (by decide)]; exact h1
  · rw [up_j, if_neg (by decide)]; exact h2
  · rw [up_j, if_pos rfl]; rfl
  · rw [up_j, if_neg (by decide)]; exact h4
  · rw [up_j, up_j, up_j, if_neg (by omega), if_neg (by omega), if_neg (by omega)]
    exact h5 i hi
  · rw [up_j, if_neg (by omega)]; exact h6 b hb
  · rw [up_j, if_neg (by omega)]; exact h7 s hs
theorem stt_m {σ : Sg} (h0 : σ 40 1 = 0) : ∃ σ2, Run 78 101 [vR 40] [] σ = some (vI 0, σ2) ∧ InvM σ2 d1 ∧ FrM σ σ2 := by
  obtain ⟨s1, a1, b1, f1⟩ := m_begins σ
  obtain ⟨s2, a2, b2, f2⟩ := m_adds (a := 0) (b := 0) (c := 2) OkR.D0 b1 (by decide)
  obtain ⟨s3, a3, b3, f3⟩ := m_adds (D := DD1) (a := 1) (b := 2) (c := 5) rr_1 b2 (by decide +kernel)
  obtain ⟨s4, a4, b4, f4⟩ := m_adds (D := DD2) (a := 2) (b := 0) (c := 3) rr_2 b3 (by decide +kernel)
  obtain ⟨s5, a5, b5, f5⟩ := m_adds (D := DD3) (a := 3) (b := 3) (c := 4) rr_3 b4 (by decide +kernel)
  obtain ⟨s6, a6, b6, f6⟩ := m_adds (D := DD4) (a := 1) (b := 0) (c := 6) rr_4 b5 (by decide +kernel)
  have b6 := dm_9 b6
  obtain ⟨t6, ht6⟩ : ∃ t6, t6 = up (up (up (up (up s6 43 25 31) 43 26 21) 43 27 14) 43 28 27) 43 1 4 := ⟨_, rfl⟩
  rw [← ht6] at b6
  obtain ⟨s7, a7, b7, f7⟩ := m_sits (D := DD9) (i := 2) (by decide +kernel) (by decide +kernel) rr_9.2.2.2 b6 (by decide +kernel)
  obtain ⟨s8, a8, b8, f8⟩ := m_sits (D := DD10) (i := 0) (by decide +kernel) (by decide +kernel) rr_10.2.2.2 b7 (by decide +kernel)
  have b8 := dm_12 b8
  obtain ⟨s9, a9, b9, f9, g9⟩ := m_lays rr_12 b8
  have a2 : Cal 75 [vR 40, vI 0, vI 0, vI 2] s1 = some (vI 0, s2) := a2
  have a3 : Cal 75 [vR 40, vI 1, vI 2, vI 5] s2 = some (vI 0, s3) := a3
  have a4 : Cal 75 [vR 40, vI 2, vI 0, vI 3] s3 = some (vI 0, s4) := a4
  have a5 : Cal 75 [vR 40, vI 3, vI 3, vI 4] s4 = some (vI 0, s5) := a5
  have a6 : Cal 75 [vR 40, vI 1, vI 0, vI 6] s5 = some (vI 0, s6) := a6
  have a7 : Cal 76 [vR 40, vI 2] t6 = some (vI 0, s7) := a7
  have a8 : Cal 76 [vR 40, vI 0] s7 = some (vI 0, s8) := a8
  have kt : ∀ q, q ≠ 43 → t6 q = s6 q := fun q hq => by rw [ht6, up_ne hq, up_ne hq, up_ne hq, up_ne hq, up_ne hq]
  have k8 : ∀ q, q ≠ 43 → s8 q = σ q := fun q hq => by rw [f8 q hq, f7 q hq, kt q hq, f6 q hq, f5 q hq, f4 q hq, f3 q hq, f2 q hq, f1 q hq]
  refine ⟨s9, ?_, ?_, fun q hq => ?_⟩
  · rw [q78_101, a1, kcV_s, a2, kcV_s, a3, kcV_s, a4, kcV_s, a5, kcV_s, a6, kcV_s, wr_id (x := 25) (by omega) (by omega), wr_id (x := 26) (by omega) (by omega), wr_id (x := 27) (by omega) (by omega), wr_id (x := 28) (by omega) (by omega), wr_1, wr_id (x := 3) (by omega) (by omega), if_pos (by omega), if_pos (by omega), if_pos (by omega), if_pos (by omega), if_pos (by omega)]
    rw [show (25 : Int).toNat = 25 from rfl, show (26 : Int).toNat = 26 from rfl, show (27 : Int).toNat = 27 from rfl, show (28 : Int).toNat = 28 from rfl, show (1 : Int).toNat = 1 from rfl, show (3 : Int).toNat = 3 from rfl, ← ht6, a7, kcV_s, a8, kcV_s, if_pos (by omega), a9, kcV_s]
  · have e : (rdA dI).2 = DD12 := by rw [rda_I]
    refine invM_laid0 (by rw [e]; exact rr_12) (by rw [e]; exact lok_12) ?_ (by rw [e]; exact b9)
    rw [g9 1 (by decide) (by decide) (by decide), up_ne (by decide), k8 40 (by decide)]
    exact h0
  · rw [f9 q (by omega) (by omega) (by omega) (by omega), up_ne (by omega), k8 q (by omega)]
