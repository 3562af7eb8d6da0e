/-! STEPS THAT CAN BE UNDONE: the store's side, and the class's -/
def curR (d : Dt) : Nat → Nat := fun i => if i = 7 then db d else d 5 i
def pushD (d : Dt) : Dt := fun q j => if q = 0 ∧ j = 6 then (if du d = 8 then 8 else du d + 1) else if 20 ≤ q ∧ q < 28 then (if du d = 8 then (if q = 27 then curR d j else d (q + 1) j) else (if q = 20 + du d then curR d j else d q j)) else d q j
def setS (d : Dt) (f : Nat → Nat) (b : Nat) : Dt := fun q j => if q = 5 then f j else if q = 0 ∧ j = 3 then b else d q j
theorem setS_row {d : Dt} {f : Nat → Nat} {b q : Nat} (h0 : q ≠ 0) (h5 : q ≠ 5) : setS d f b q = d q := by
  funext j
  unfold setS
  rw [if_neg h5, if_neg (fun z => h0 z.1)]
theorem setS_0 {d : Dt} {f : Nat → Nat} {b j : Nat} (h : j ≠ 3) : setS d f b 0 j = d 0 j := by
  unfold setS
  rw [if_neg (by decide), if_neg (fun z => h z.2)]
theorem setS_5 {d : Dt} {f : Nat → Nat} {b : Nat} : setS d f b 5 = f := funext fun j => if_pos rfl
theorem setS_b {d : Dt} {f : Nat → Nat} {b : Nat} : db (setS d f b) = b := by
  unfold db setS
  rw [if_neg (by decide), if_pos ⟨rfl, rfl⟩]
theorem pushD_row {d : Dt} {q : Nat} (h0 : q ≠ 0) (h : q < 20 ∨ 28 ≤ q) : pushD d q = d q := by
  funext j
  unfold pushD
  rw [if_neg (fun z => h0 z.1), if_neg (by omega)]
theorem pushD_0 {d : Dt} {j : Nat} (h : j ≠ 6) : pushD d 0 j = d 0 j := by
  unfold pushD
  rw [if_neg (fun z => h z.2), if_neg (by omega)]
theorem pushD_u {d : Dt} : du (pushD d) = if du d = 8 then 8 else du d + 1 := by
  unfold du pushD
  rw [if_pos ⟨rfl, rfl⟩]
  rfl
theorem pushD_p {d : Dt} {j : Nat} (h : j < 8) : pushD d (20 + j) = if du d = 8 then (if j = 7 then curR d else d (20 + (j + 1))) else (if j = du d then curR d else d (20 + j)) := by
  funext i
  unfold pushD
  rw [if_neg (by omega), if_pos (by omega)]
  by_cases c : du d = 8
  · rw [if_pos c, if_pos c]
    by_cases c1 : j = 7
    · rw [if_pos (by omega), if_pos c1]
    · rw [if_neg (by omega), if_neg c1]
      rfl
  · rw [if_neg c, if_neg c]
    by_cases c1 : j = du d
    · rw [if_pos (by omega), if_pos c1]
    · rw [if_neg (by omega), if_neg c1]
theorem curR_perm {d : Dt} (hn : dn d ≤ 7) (h : PermS (dn d) (d 5)) : PermS (dn d) (curR d) := perm_ext h (fun i hi => by unfold curR; rw [if_neg (by omega)])
theorem ok_step {d : Dt} {f : Nat → Nat} {b : Nat} (hO : OkD d) (hf : PermS (dn d) f) (hb : b < 2 ^ dn d) : OkD (setS (pushD d) f b) := by
  obtain ⟨⟨a1, a2, a3, a4, a5, a6, a7, a8, a9⟩, o2, o3, o4, o5, o6, o7, o8⟩ := hO
  have en : dn (setS (pushD d) f b) = dn d := (setS_0 (by decide)).trans (pushD_0 (by decide))
  have eB : dB (setS (pushD d) f b) = dB d := (setS_0 (by decide)).trans (pushD_0 (by decide))
  have eg : dg (setS (pushD d) f b) = dg d := (setS_0 (by decide)).trans (pushD_0 (by decide))
  have eL : dL (setS (pushD d) f b) = dL d := (setS_0 (by decide)).trans (pushD_0 (by decide))
  have eh : dh (setS (pushD d) f b) = dh d := (setS_0 (by decide)).trans (pushD_0 (by decide))
  have ek : dk (setS (pushD d) f b) = dk d := (setS_0 (by decide)).trans (pushD_0 (by decide))
  have eu : du (setS (pushD d) f b) = if du d = 8 then 8 else du d + 1 := (setS_0 (by decide)).trans pushD_u
  have er : ∀ q, q ≠ 0 → q ≠ 5 → (q < 20 ∨ 28 ≤ q) → setS (pushD d) f b q = d q := fun q h0 h5 h => (setS_row h0 h5).trans (pushD_row h0 h)
  unfold OkD
  rw [en, eB, eg, eL, eh, ek, eu, setS_b, setS_5, er 1 (by decide) (by decide) (by decide), er 2 (by decide) (by decide) (by decide), er 3 (by decide) (by decide) (by decide), er 4 (by decide) (by decide) (by decide), er 6 (by decide) (by decide) (by decide), er 7 (by decide) (by decide) (by decide), er 8 (by decide) (by decide) (by decide), er 9 (by decide) (by decide) (by decide)]
  refine ⟨⟨a1, a2, a3, a4, hb, a6, a7, by split <;> omega, a9⟩, o2, o3, hf, o5, o6, fun j hj => ?_, fun j hj => ?_⟩
  · have hj8 : j < 8 := by
      by_cases c : du d = 8
      · rw [if_pos c] at hj; exact hj
      · rw [if_neg c] at hj; omega
    have hc := curR_perm a2 o4
    have hc7 : curR d 7 < 2 ^ dn d := by unfold curR; rw [if_pos rfl]; exact a5
    rw [setS_row (by omega) (by omega), pushD_p hj8]
    by_cases c : du d = 8
    · rw [if_pos c]
      by_cases c1 : j = 7
      · rw [if_pos c1]; exact ⟨hc, hc7⟩
      · rw [if_neg c1]; exact o7 (j + 1) (by omega)
    · rw [if_neg c]
      rw [if_neg c] at hj
      by_cases c1 : j = du d
      · rw [if_pos c1]; exact ⟨hc, hc7⟩
      · rw [if_neg c1]; exact o7 j (by omega)
  · rw [er (30 + j) (by omega) (by omega) (by omega)]
    exact o8 j hj
-- remember(what)
theorem c_rem {d : Dt} {σ : Sg} {c : Nat} (hO : OkD d) (hU : σ 0 9 = ((du d : Nat) : Int)) : ∃ σ', Cal 48 [vR 0, vI c] σ = some (vI 0, σ') ∧ (∀ q, q ≠ 0 → q ≠ 3 → σ' q = σ q) ∧ (∀ j, j ≠ 9 → σ' 0 j = σ 0 j) ∧ σ' 0 9 = (((if du d = 8 then 8 else du d + 1) : Nat) : Int) ∧ (∀ j, j < (if du d = 8 then 8 else du d + 1) → σ' 3 j = if j + 1 = (if du d = 8 then 8 else du d + 1) then (c : Int) else σ 3 (if du d = 8 then j + 1 else j)) := by
  have hu := hO.1.2.2.2.2.2.2.2.1
  have w8 : wr 8 = 8 := by decide
  have w7 : wr 7 = 7 := by decide
  have e0 : Cal 48 [vR 0, vI c] σ = _ := q48_0 c σ
  rw [hU, w8, wr_id (x := (du d : Int)) (by omega) (by omega)] at e0
  by_cases h8 : du d = 8
  · rw [if_neg (by omega), wr_1, wr_0, w7, if_pos (by omega)] at e0
    simp only [show (1 : Int).toNat = 1 from rfl, show (7 : Int).toNat = 7 from rfl, Int.toNat_zero] at e0
    have e1 := q48_30 (c : Int) (up (cpy σ 3 1 3 0 7) 0 9 7)
    rw [up_e, w7, if_pos (by omega), show (7 : Int).toNat = 7 from rfl, up_p _ _ _ (by decide), up_e] at e1
    obtain ⟨X, hX⟩ : ∃ X, X = up (up (up (cpy σ 3 1 3 0 7) 0 9 7) 3 7 c) 0 9 (7 + 1) := ⟨_, rfl⟩
    rw [← hX] at e1
    refine ⟨X, e0.trans e1, fun q h0 h3 => by rw [hX, up_ne h0, up_ne h3, up_ne h0, cpy_ne h3], fun j hj => ?_, ?_, fun j hj => ?_⟩
    · rw [hX, up_j, if_neg hj, up_p _ _ _ (by decide), up_j, if_neg hj, cpy_ne (by decide)]
    · rw [hX, up_e, if_pos h8]; rfl
    · rw [if_pos h8] at hj
      rw [if_pos h8, if_pos h8, hX, up_p _ _ _ (by decide), up_j, up_p _ _ _ (by decide)]
      by_cases c1 : j = 7
      · rw [if_pos c1, if_pos (by omega)]
      · rw [if_neg c1, if_neg (by omega)]
        unfold cpy
        rw [if_pos (by omega)]
        congr 1
        omega
  · rw [if_pos (by omega)] at e0
    have e1 := q48_30 (c : Int) σ
    rw [hU, wr_id (x := (du d : Int)) (by omega) (by omega), if_pos (by omega), toN, up_p _ _ _ (by decide), hU] at e1
    obtain ⟨X, hX⟩ : ∃ X, X = up (up σ 3 (du d) c) 0 9 (((du d : Nat) : Int) + 1) := ⟨_, rfl⟩
    rw [← hX] at e1
    refine ⟨X, e0.trans e1, fun q h0 h3 => by rw [hX, up_ne h0, up_ne h3], fun j hj => ?_, ?_, fun j hj => ?_⟩
    · rw [hX, up_j, if_neg hj, up_p _ _ _ (by decide)]
    · rw [hX, up_e, if_neg h8]; omega
    · rw [if_neg h8] at hj
      rw [if_neg h8, if_neg h8, hX, up_p _ _ _ (by decide), up_j]
      by_cases c1 : j = du d
      · rw [if_pos c1, if_pos (by omega)]
      · rw [if_neg c1, if_neg (by omega)]
-- settle()
theorem c_settle {d : Dt} {σ : Sg} (hO : OkD d) (hB : BandI σ d) (hS : SeatI σ d) : ∃ σ', Cal 30 [vR 0] σ = some (vI 0, σ') ∧ (∀ q, q ≠ 26 → q ≠ 27 → q ≠ 28 → q ≠ 29 → σ' q = σ q) ∧ NowI σ' d ∧ SurvI σ' d := by
  have h127 : (127 : Nat) < 2147483648 := by decide
  obtain ⟨s1, r1, r2, r3⟩ := play_all (e := 26) (p := 1) (may := 127) (Or.inl rfl) (Or.inl rfl) hB.1 (by have := hO.1.2.2.2.1; omega : dg d < 2147483648) hO.1.2.2.2.2.1 h127 hO.2.2.2.1 hS.1
  have e0 : Cal 30 [vR 0] σ = _ := q30_0 σ
  have e1 : Cal 13 [vR 26, vR 20, vR 1, vI (dg d), vI (db d), vI 127] σ = some (vI 0, s1) := r1
  rw [hB.2.2, hS.2, e1, kcV_s, if_pos (Or.inl rfl)] at e0
  refine ⟨_, e0, fun q a1 a2 a3 a4 => by rw [up_ne a4, r2 q a1 a2 a3], ?_, Or.inl (up_e _ _ _ _)⟩
  have hN : NowI s1 d := EvB_127 hO.1.2.1 hO.2.2.1 r3
  exact hN.kept (up_ne (by decide)) (up_ne (by decide)) (up_ne (by decide))
theorem baS_congr {n c : Nat} {f g : Nat → Nat} (hc : codeOk n c) (h : ∀ i, i < n → f i = g i) (i : Nat) (hi : i < n) : baS c f i = baS c g i := by
  unfold baS
  by_cases c1 : 64 ≤ c
  · rw [if_pos c1, if_pos c1]
    have h2 : c / 8 % 8 < n ∧ c % 8 < n := by
      rcases hc with q | ⟨_, q2, q3, _⟩
      · exact ⟨by omega, by omega⟩
      · exact ⟨q2, q3⟩
    unfold swF
    rw [h _ h2.1, h _ h2.2, h i hi]
  · rw [if_neg c1, if_neg c1]; exact h i hi
/-- a step of code c from d to f, b: what UndoI says behind it -/
theorem undo_step {d : Dt} {σ σ' : Sg} {f : Nat → Nat} {b c : Nat} (hO : OkD d) (hU : UndoI σ d) (hc : codeOk (dn d) c) (hf : ∀ i, i < dn d → d 5 i = baS c f i) (hb : db d = baB c b) (h9 : σ' 0 9 = (((if du d = 8 then 8 else du d + 1) : Nat) : Int)) (h3 : ∀ j, j < (if du d = 8 then 8 else du d + 1) → σ' 3 j = if j + 1 = (if du d = 8 then 8 else du d + 1) then (c : Int) else σ 3 (if du d = 8 then j + 1 else j)) : UndoI σ' (setS (pushD d) f b) := by
  have en : dn (setS (pushD d) f b) = dn d := (setS_0 (by decide)).trans (pushD_0 (by decide))
  have eu : du (setS (pushD d) f b) = if du d = 8 then 8 else du d + 1 := (setS_0 (by decide)).trans pushD_u
  have hu := hO.1.2.2.2.2.2.2.2.1
  have hn := hO.1.2.1
  have ep : ∀ j, j < 8 → setS (pushD d) f b (20 + j) = if du d = 8 then (if j = 7 then curR d else d (20 + (j + 1))) else (if j = du d then curR d else d (20 + j)) := fun j hj => (setS_row (by omega) (by omega)).trans (pushD_p hj)
  have hcur : ∀ i, i < dn d → curR d i = d 5 i := fun i hi => by unfold curR; rw [if_neg (by omega)]
  have hcur7 : curR d 7 = db d := if_pos rfl
  unfold UndoI
  rw [en, eu]
  refine ⟨h9, fun j hj => ?_⟩
  have hs : nxS (setS (pushD d) f b) j = if j + 1 < (if du d = 8 then 8 else du d + 1) then setS (pushD d) f b (20 + (j + 1)) else f := by unfold nxS; rw [eu, setS_5]
  have hbx : nxB (setS (pushD d) f b) j = if j + 1 < (if du d = 8 then 8 else du d + 1) then setS (pushD d) f b (20 + (j + 1)) 7 else b := by unfold nxB; rw [eu, setS_b]
  rw [hs, hbx]
  have h3j := h3 j hj
  by_cases h8 : du d = 8
  · rw [if_pos h8] at hj h3j
    rw [if_pos h8] at h3j
    simp only [if_pos h8] at *
    by_cases c1 : j = 7
    · rw [if_pos (by omega)] at h3j
      refine ⟨c, hc, h3j, fun i hi => ?_, ?_⟩
      · rw [ep j hj, if_pos c1, if_neg (by omega), hcur i hi]; exact hf i hi
      · rw [ep j hj, if_pos c1, if_neg (by omega), hcur7]; exact hb
    · rw [if_neg (by omega)] at h3j
      obtain ⟨c0, k1, k2, k3, k4⟩ := hU.2 (j + 1) (by omega)
      refine ⟨c0, k1, h3j.trans k2, fun i hi => ?_, ?_⟩
      · rw [ep j hj, if_neg c1, if_pos (by omega), k3 i hi, ep (j + 1) (by omega)]
        unfold nxS
        by_cases c2 : j + 1 = 7
        · rw [if_neg (by omega), if_pos c2]
          exact baS_congr k1 (fun i hi => (hcur i hi).symm) i hi
        · rw [if_pos (by omega), if_neg c2]
      · rw [ep j hj, if_neg c1, if_pos (by omega), k4, ep (j + 1) (by omega)]
        unfold nxB
        by_cases c2 : j + 1 = 7
        · rw [if_neg (by omega), if_pos c2, hcur7]
        · rw [if_pos (by omega), if_neg c2]
  · simp only [if_neg h8] at *
    by_cases c1 : j = du d
    · rw [if_pos (by omega)] at h3j
      refine ⟨c, hc, h3j, fun i hi => ?_, ?_⟩
      · rw [ep j (by omega), if_pos c1, if_neg (by omega), hcur i hi]; exact hf i hi
      · rw [ep j (by omega), if_pos c1, if_neg (by omega), hcur7]; exact hb
    · rw [if_neg (by omega)] at h3j
      obtain ⟨c0, k1, k2, k3, k4⟩ := hU.2 j (by omega)
      refine ⟨c0, k1, h3j.trans k2, fun i hi => ?_, ?_⟩
      · rw [ep j (by omega), if_neg c1, if_pos (by omega), k3 i hi, ep (j + 1) (by omega)]
        unfold nxS
        by_cases c2 : j + 1 = du d
        · rw [if_neg (by omega), if_pos c2]
          exact baS_congr k1 (fun i hi => (hcur i hi).symm) i hi
        · rw [if_pos (by omega), if_neg c2]
      · rw [ep j (by omega), if_neg c1, if_pos (by omega), k4, ep (j + 1) (by omega)]
        unfold nxB
        by_cases c2 : j + 1 = du d
        · rw [if_neg (by omega), if_pos c2, hcur7]
        · rw [if_pos (by omega), if_neg c2]
