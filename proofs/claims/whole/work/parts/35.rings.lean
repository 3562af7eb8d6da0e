/-! RINGS: fewest changes from one seating to another; class and reference -/
theorem popc_7 : ∀ a, a < 128 → popc 8 a ≤ 7 := by decide +kernel
theorem ntS_7 {n : Nat} (hn : n ≤ 7) (kk mm aa ss : Nat → Nat) (g bb : Nat) : ∀ b, ntS n kk mm aa ss g bb b ≤ 7 * b
  | 0 => Nat.le_refl _
  | b + 1 => by
    have h1 := plS_lt n kk mm aa ss g bb b
    have h2 := p2_7 hn
    have h3 := popc_7 (plS n kk mm aa ss g bb b) (by omega)
    have h4 := ntS_7 hn kk mm aa ss g bb b
    show ntS n kk mm aa ss g bb b + popc 8 (plS n kk mm aa ss g bb b) ≤ _
    omega
theorem ntK_le {d : Dt} (hO : OkD d) (k : Nat) : ntK d k ≤ 56 := by
  have h1 := ntS_7 hO.1.2.1 (d 1) (d 2) (d 4) (pmF (dn d) k) (dg d) (db d) (dB d)
  have h2 := hO.1.2.2.1
  unfold ntK
  omega
theorem whK_le (d : Dt) (k : Nat) : whK d k ≤ dB d := whS_le _ _ _ _ _ _ _ _
theorem cnt_le (P : Nat → Bool) : ∀ k, cnt P k ≤ k
  | 0 => Nat.le_refl _
  | k + 1 => by
    have := cnt_le P k
    unfold cnt
    split <;> omega
theorem cnt_0 {P : Nat → Bool} : ∀ n, cnt P n = 0 → ∀ s, s < n → P s = false
  | 0, _, s, hs => by omega
  | n + 1, h, s, hs => by
    unfold cnt at h
    by_cases c : P n = true
    · rw [if_pos c] at h
      omega
    · rcases (show s < n ∨ s = n by omega) with g | g
      · exact cnt_0 n (by omega) s g
      · rw [g]
        simpa using c
theorem cnt_drop {P Q : Nat → Bool} {a : Nat} (h1 : P a = true) (h2 : Q a = false) (h3 : ∀ s, s ≠ a → Q s = P s) : ∀ n, (n ≤ a → cnt Q n = cnt P n) ∧ (a < n → cnt Q n + 1 = cnt P n)
  | 0 => ⟨fun _ => rfl, fun h => by omega⟩
  | n + 1 => by
    have ih := cnt_drop h1 h2 h3 n
    refine ⟨fun h => ?_, fun h => ?_⟩
    · unfold cnt
      rw [ih.1 (by omega), h3 n (by omega)]
    · unfold cnt
      by_cases c : n = a
      · rw [c, h1, h2, if_pos rfl, if_neg (by decide)]
        have := ih.1 (by omega)
        rw [c] at this
        omega
      · rw [h3 n c]
        have := ih.2 (by omega)
        omega
/-- seats not yet seen -/
def fr (n seen : Nat) : Nat := cnt (fun s => !seen.testBit s) n
theorem fr_le (n seen : Nat) : fr n seen ≤ n := cnt_le _ _
theorem fr_drop {n seen a : Nat} (ha : a < n) (h : seen.testBit a = false) : fr n (seen ||| 2 ^ a) + 1 = fr n seen := by
  unfold fr
  refine (cnt_drop (P := fun s => !seen.testBit s) (Q := fun s => !(seen ||| 2 ^ a).testBit s) (a := a) ?_ ?_ ?_ n).2 ha
  · show (!seen.testBit a) = true
    rw [h]; rfl
  · show (!(seen ||| 2 ^ a).testBit a) = false
    rw [Nat.testBit_or, Nat.testBit_two_pow]
    simp
  · intro s hs
    show (!(seen ||| 2 ^ a).testBit s) = (!seen.testBit s)
    rw [Nat.testBit_or, Nat.testBit_two_pow]
    simp [show ¬ a = s from fun z => hs z.symm]
theorem fr_0 {n seen a : Nat} (ha : a < n) (h : fr n seen = 0) : seen.testBit a = true := by
  have := cnt_0 n h a ha
  simpa using this
theorem ringW_lt {n : Nat} {π : Nat → Nat} (hπ : ∀ s, s < n → π s < n) : ∀ (k seen at0 : Nat), seen < 2 ^ n → at0 < n → ringW n π k seen at0 < 2 ^ n
  | 0, seen, at0, h, _ => h
  | k + 1, seen, at0, h, h1 => by
    unfold ringW
    split
    · exact h
    · exact ringW_lt hπ k _ _ (Nat.or_lt_two_pow h (p2_lt h1)) (hπ at0 h1)
theorem rings_lt {n : Nat} {π : Nat → Nat} (hπ : ∀ s, s < n → π s < n) : ∀ s, s ≤ n → (rings n π s).1 ≤ s ∧ (rings n π s).2 < 2 ^ n
  | 0, _ => ⟨Nat.le_refl _, Nat.two_pow_pos n⟩
  | s + 1, h => by
    have ih := rings_lt hπ s (by omega)
    refine ⟨?_, ringW_lt hπ n _ _ ih.2 (by omega)⟩
    show (rings n π s).1 + _ ≤ _
    split <;> omega
theorem sof_lt {n i : Nat} {ss : Nat → Nat} (h : PermS n ss) (hi : i < n) : sof ss i n < n := by
  obtain ⟨s, hs, e⟩ := h.2.2 i hi
  rw [sof_perm h hs e]
  exact hs
theorem stepF_lt {n : Nat} {ss f : Nat → Nat} (h : PermS n ss) (hf : PermS n f) : ∀ s, s < n → stepF n ss f s < n := fun s hs => sof_lt h (hf.1 s hs)
-- the class
theorem c_ring {n : Nat} {ss f : Nat → Nat} {σ : Sg} {x3 x4 : Int} (hn : n ≤ 7) (h : PermS n ss) (hf : PermS n f) (h2 : Rep σ 32 n f) (h3 : ∀ v, v < n → σ 33 v = ((sof ss v n : Nat) : Int)) : ∀ (r k seen at0 : Nat), k + r = n → seen < 2 ^ n → at0 < n → ∃ u v : Int, Run 25 37 [vR 29, vI n, vI seen, vI x3, vI x4, vI at0, vI k] [] σ = Run 25 7 [vR 29, vI n, vI ((ringW n (stepF n ss f) r seen at0 : Nat) : Int), vI x3, vI (x4 + 1), vI u, vI v] [] σ
  | 0, k, seen, at0, hk, hs, ha => by
    refine ⟨at0, k, ?_⟩
    rw [q25_37, wr_id (x := (k : Int)) (by omega) (by omega), wr_id (x := (n : Int)) (by omega) (by omega), if_neg (show ¬ (k : Int) < (n : Int) by omega)]
    rfl
  | r + 1, k, seen, at0, hk, hs, ha => by
    have hp := p2_7 hn
    have hl := p2_lt ha
    have e0 := q25_37 (n : Int) (seen : Int) x3 x4 (at0 : Int) (k : Int) σ
    rw [wr_id (x := (k : Int)) (by omega) (by omega), wr_id (x := (n : Int)) (by omega) (by omega), if_pos (show (k : Int) < (n : Int) by omega)] at e0
    unfold ringW
    by_cases c : seen.testBit at0 = true
    · rw [if_neg (fun z => by rw [(bit_0 seen at0 (by omega) (by omega)).mp z] at c; cases c)] at e0
      rw [if_pos c]
      exact ⟨_, _, e0⟩
    · have c' : seen.testBit at0 = false := by simpa using c
      have hf1 := hf.1 at0 ha
      have e1 : bor (seen : Int) (bsl 1 (at0 : Int)) = ((seen ||| 2 ^ at0 : Nat) : Int) := by
        rw [bsl1_n at0 (by omega)]
        exact bor_n _ _ (by omega) (by omega)
      rw [if_pos ((bit_0 seen at0 (by omega) (by omega)).mpr c'), wr_id (x := (at0 : Int)) (by omega) (by omega), if_pos (show 0 ≤ (at0 : Int) ∧ (at0 : Int) < 7 by omega), toN, h2 at0 ha, wr_id (x := ((f at0 : Nat) : Int)) (by omega) (by omega), if_pos (show 0 ≤ ((f at0 : Nat) : Int) ∧ ((f at0 : Nat) : Int) < 7 by omega), toN, h3 _ hf1, e1] at e0
      rw [if_neg c]
      obtain ⟨u, v, ih⟩ := c_ring hn h hf h2 h3 r (k + 1) (seen ||| 2 ^ at0) (stepF n ss f at0) (by omega) (Nat.or_lt_two_pow hs hl) (stepF_lt h hf at0 ha)
      exact ⟨u, v, e0.trans ih⟩
theorem c_rings {n : Nat} {ss f : Nat → Nat} {σ : Sg} (hn : n ≤ 7) (h : PermS n ss) (hf : PermS n f) (h2 : Rep σ 32 n f) (h3 : ∀ v, v < n → σ 33 v = ((sof ss v n : Nat) : Int)) : ∀ (r s : Nat) (x5 x6 : AV), s + r = n → Run 25 7 [vR 29, vI n, vI (((rings n (stepF n ss f) s).2 : Nat) : Int), vI (((rings n (stepF n ss f) s).1 : Nat) : Int), vI s, x5, x6] [] σ = some (vI ((n - (rings n (stepF n ss f) n).1 : Nat) : Int), σ)
  | 0, s, x5, x6, hs => by
    have e : s = n := by omega
    have l := rings_lt (stepF_lt h hf) n (Nat.le_refl _)
    rw [q25_7, wr_id (x := (s : Int)) (by omega) (by omega), wr_id (x := (n : Int)) (by omega) (by omega), if_neg (show ¬ (s : Int) < (n : Int) by omega), e]
    rw [show ((n - (rings n (stepF n ss f) n).1 : Nat) : Int) = (n : Int) - (((rings n (stepF n ss f) n).1 : Nat) : Int) by omega]
  | r + 1, s, x5, x6, hs => by
    have hp := p2_7 hn
    have l := rings_lt (stepF_lt h hf) s (by omega)
    have ih := c_rings hn h hf h2 h3 r (s + 1)
    obtain ⟨u, v, e1⟩ := c_ring (x3 := (((rings n (stepF n ss f) (s + 1)).1 : Nat) : Int)) (x4 := (s : Int)) hn h hf h2 h3 n 0 (rings n (stepF n ss f) s).2 s (by omega) l.2 (by omega)
    rw [q25_7, wr_id (x := (s : Int)) (by omega) (by omega), wr_id (x := (n : Int)) (by omega) (by omega), if_pos (show (s : Int) < (n : Int) by omega)]
    by_cases c : (rings n (stepF n ss f) s).2.testBit s = true
    · rw [if_neg (fun z => by rw [(bit_0 _ s (by omega) (by omega)).mp z] at c; cases c), q25_28]
      have e2 : (((rings n (stepF n ss f) s).1 : Nat) : Int) + 0 = (((rings n (stepF n ss f) (s + 1)).1 : Nat) : Int) := by
        show _ = (((rings n (stepF n ss f) s).1 + _ : Nat) : Int)
        rw [if_pos c]; rfl
      rw [e2]
      exact e1.trans (ih _ _ (by omega))
    · have c' : (rings n (stepF n ss f) s).2.testBit s = false := by simpa using c
      rw [if_pos ((bit_0 _ s (by omega) (by omega)).mpr c'), q25_28]
      have e2 : (((rings n (stepF n ss f) s).1 : Nat) : Int) + 1 = (((rings n (stepF n ss f) (s + 1)).1 : Nat) : Int) := by
        show _ = (((rings n (stepF n ss f) s).1 + _ : Nat) : Int)
        rw [if_neg c]; rfl
      rw [e2]
      exact e1.trans (ih _ _ (by omega))
theorem c_far {n : Nat} {ss f : Nat → Nat} {σ : Sg} (hn : n ≤ 7) (h : PermS n ss) (hf : PermS n f) (h2 : Rep σ 32 n f) (h3 : ∀ v, v < n → σ 33 v = ((sof ss v n : Nat) : Int)) : Cal 25 [vR 29, vI n] σ = some (vI ((n - (rings n (stepF n ss f) n).1 : Nat) : Int), σ) := (q25_0 _ σ).trans (c_rings hn h hf h2 h3 n 0 vJ vJ (by omega))
-- the reference
theorem m_ring {d : Dt} {f : Nat → Nat} {σ : Sg} {x2 x3 : Int} (hO : OkD d) (hM : InvM σ d) (hf : PermS (dn d) f) (h2 : Rep σ 48 (dn d) f) : ∀ (r seen at0 : Nat), fr (dn d) seen ≤ r → seen < 2 ^ dn d → at0 < dn d → ∃ u : Int, Run 113 35 [vR 40, vI seen, vI x2, vI x3, vI at0] [] σ = Run 113 6 [vR 40, vI ((ringW (dn d) (stepF (dn d) (d 5) f) r seen at0 : Nat) : Int), vI x2, vI (x3 + 1), vI u] [] σ
  | 0, seen, at0, hk, hs, ha => by
    have hn := hO.1.2.1
    have hp := p2_7 hn
    have c := fr_0 ha (by omega : fr (dn d) seen = 0)
    refine ⟨at0, ?_⟩
    rw [q113_35, if_neg (fun z => by rw [(bit_0 seen at0 (by omega) (by omega)).mp z] at c; cases c)]
    rfl
  | r + 1, seen, at0, hk, hs, ha => by
    have hn := hO.1.2.1
    have hp := p2_7 hn
    have hl := p2_lt ha
    have e0 := q113_35 (seen : Int) x2 x3 (at0 : Int) σ
    unfold ringW
    by_cases c : seen.testBit at0 = true
    · rw [if_neg (fun z => by rw [(bit_0 seen at0 (by omega) (by omega)).mp z] at c; cases c)] at e0
      rw [if_pos c]
      exact ⟨_, e0⟩
    · have c' : seen.testBit at0 = false := by simpa using c
      have hf1 := hf.1 at0 ha
      have e1 : bor (seen : Int) (bsl 1 (at0 : Int)) = ((seen ||| 2 ^ at0 : Nat) : Int) := by
        rw [bsl1_n at0 (by omega)]
        exact bor_n _ _ (by omega) (by omega)
      have hd := fr_drop ha c'
      rw [if_pos ((bit_0 seen at0 (by omega) (by omega)).mpr c'), wr_id (x := (at0 : Int)) (by omega) (by omega), if_pos (show 0 ≤ (at0 : Int) ∧ (at0 : Int) < 7 by omega), toN, h2 at0 ha, m_seatOf hO hM (by omega), kcI_s, e1] at e0
      rw [if_neg c]
      obtain ⟨u, ih⟩ := m_ring (x2 := x2) (x3 := x3) hO hM hf h2 r (seen ||| 2 ^ at0) (stepF (dn d) (d 5) f at0) (by omega) (Nat.or_lt_two_pow hs hl) (stepF_lt hO.2.2.2.1 hf at0 ha)
      exact ⟨u, e0.trans ih⟩
theorem m_rings {d : Dt} {f : Nat → Nat} {σ : Sg} (hO : OkD d) (hM : InvM σ d) (hf : PermS (dn d) f) (h2 : Rep σ 48 (dn d) f) : ∀ (r s : Nat) (x4 : AV), s + r = dn d → Run 113 6 [vR 40, vI (((rings (dn d) (stepF (dn d) (d 5) f) s).2 : Nat) : Int), vI (((rings (dn d) (stepF (dn d) (d 5) f) s).1 : Nat) : Int), vI s, x4] [] σ = some (vI ((dn d - (rings (dn d) (stepF (dn d) (d 5) f) (dn d)).1 : Nat) : Int), σ)
  | 0, s, x4, hs => by
    have hn := hO.1.2.1
    have e : s = dn d := by omega
    have l := rings_lt (stepF_lt hO.2.2.2.1 hf) (dn d) (Nat.le_refl _)
    rw [q113_6, wr_0, if_pos (by decide), Int.toNat_zero, hM.1.1, wr_id (x := (s : Int)) (by omega) (by omega), wr_id (x := (dn d : Int)) (by omega) (by omega), if_neg (show ¬ (s : Int) < (dn d : Int) by omega), if_pos (by decide), e]
    rw [show ((dn d - (rings (dn d) (stepF (dn d) (d 5) f) (dn d)).1 : Nat) : Int) = (dn d : Int) - (((rings (dn d) (stepF (dn d) (d 5) f) (dn d)).1 : Nat) : Int) by omega]
  | r + 1, s, x4, hs => by
    have hn := hO.1.2.1
    have hp := p2_7 hn
    have l := rings_lt (stepF_lt hO.2.2.2.1 hf) s (by omega)
    have ih := m_rings hO hM hf h2 r (s + 1)
    obtain ⟨u, e1⟩ := m_ring (x2 := (((rings (dn d) (stepF (dn d) (d 5) f) (s + 1)).1 : Nat) : Int)) (x3 := (s : Int)) hO hM hf h2 (dn d) (rings (dn d) (stepF (dn d) (d 5) f) s).2 s (fr_le _ _) l.2 (by omega)
    rw [q113_6, wr_0, if_pos (by decide), Int.toNat_zero, hM.1.1, wr_id (x := (s : Int)) (by omega) (by omega), wr_id (x := (dn d : Int)) (by omega) (by omega), if_pos (show (s : Int) < (dn d : Int) by omega)]
    by_cases c : (rings (dn d) (stepF (dn d) (d 5) f) s).2.testBit s = true
    · have e2 : (((rings (dn d) (stepF (dn d) (d 5) f) s).1 : Nat) : Int) + 0 = (((rings (dn d) (stepF (dn d) (d 5) f) (s + 1)).1 : Nat) : Int) := by
        show _ = (((rings (dn d) (stepF (dn d) (d 5) f) s).1 + _ : Nat) : Int)
        rw [if_pos c]; rfl
      rw [if_neg (fun z => by rw [(bit_0 _ s (by omega) (by omega)).mp z] at c; cases c), e2]
      exact e1.trans (ih _ (by omega))
    · have c' : (rings (dn d) (stepF (dn d) (d 5) f) s).2.testBit s = false := by simpa using c
      have e2 : (((rings (dn d) (stepF (dn d) (d 5) f) s).1 : Nat) : Int) + 1 = (((rings (dn d) (stepF (dn d) (d 5) f) (s + 1)).1 : Nat) : Int) := by
        show _ = (((rings (dn d) (stepF (dn d) (d 5) f) s).1 + _ : Nat) : Int)
        rw [if_neg c]; rfl
      rw [if_pos ((bit_0 _ s (by omega) (by omega)).mpr c'), e2]
      exact e1.trans (ih _ (by omega))
theorem m_far {d : Dt} {f : Nat → Nat} {σ : Sg} (hO : OkD d) (hM : InvM σ d) (hf : PermS (dn d) f) (h2 : Rep σ 48 (dn d) f) : Cal 113 [vR 40] σ = some (vI ((dn d - (rings (dn d) (stepF (dn d) (d 5) f) (dn d)).1 : Nat) : Int), σ) := (q113_0 σ).trans (m_rings hO hM hf h2 (dn d) 0 vJ (by omega))
theorem farK_le (d : Dt) (k : Nat) : farK d k ≤ dn d := Nat.sub_le _ _
