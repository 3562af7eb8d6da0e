/-! SEATINGS: two seats changed, the next seating, in the class and in the reference -/
def swF (f : Nat → Nat) (a b : Nat) : Nat → Nat := fun i => if i = b then f a else if i = a then f b else f i
def swI (a b i : Nat) : Nat := if i = b then a else if i = a then b else i
theorem swF_swI (f : Nat → Nat) (a b i : Nat) : swF f a b i = f (swI a b i) := by
  unfold swF swI
  split
  · rfl
  · split <;> rfl
def Rep (σ : Sg) (p n : Nat) (f : Nat → Nat) : Prop := ∀ i, i < n → σ p i = ((f i : Nat) : Int)
theorem Rep.kept {σ σ' : Sg} {p n : Nat} {f : Nat → Nat} (h : Rep σ p n f) (h0 : σ' p = σ p) : Rep σ' p n f := fun i hi => by rw [h0]; exact h i hi
theorem Rep.to {σ : Sg} {p n : Nat} {f g : Nat → Nat} (h : Rep σ p n f) (hg : ∀ i, i < n → f i = g i) : Rep σ p n g := fun i hi => by rw [h i hi, hg i hi]
theorem Rep.sw {σ : Sg} {p n a b : Nat} {f : Nat → Nat} (h : Rep σ p n f) (ha : a < n) (hb : b < n) : Rep (up (up σ p a (σ p b)) p b (σ p a)) p n (swF f a b) := fun i hi => by
  rw [up_j, up_j, h a ha, h b hb, h i hi]
  unfold swF
  split
  · rfl
  · split <;> rfl
theorem perm_comp {n : Nat} {f π : Nat → Nat} (h : PermS n f) (h1 : ∀ i, i < n → π i < n) (h2 : ∀ i, i < n → π (π i) = i) : PermS n (fun i => f (π i)) := by
  refine ⟨fun s hs => h.1 _ (h1 s hs), fun s t hs ht e => ?_, fun v hv => ?_⟩
  · have := h.2.1 _ _ (h1 s hs) (h1 t ht) e
    rw [← h2 s hs, this, h2 t ht]
  · obtain ⟨s, hs, e⟩ := h.2.2 v hv
    exact ⟨π s, h1 s hs, by show f (π (π s)) = v; rw [h2 s hs]; exact e⟩
theorem perm_ext {n : Nat} {f g : Nat → Nat} (h : PermS n f) (e : ∀ i, i < n → g i = f i) : PermS n g := by
  refine ⟨fun s hs => by rw [e s hs]; exact h.1 s hs, fun s t hs ht z => ?_, fun v hv => ?_⟩
  · rw [e s hs, e t ht] at z
    exact h.2.1 s t hs ht z
  · obtain ⟨s, hs, q⟩ := h.2.2 v hv
    exact ⟨s, hs, by rw [e s hs]; exact q⟩
theorem swF_perm {n a b : Nat} {f : Nat → Nat} (h : PermS n f) (ha : a < n) (hb : b < n) : PermS n (swF f a b) := by
  refine perm_ext (perm_comp (π := swI a b) h (fun i hi => ?_) (fun i hi => ?_)) (fun i _ => swF_swI f a b i)
  · unfold swI; split
    · exact ha
    · split
      · exact hb
      · exact hi
  · unfold swI
    by_cases c1 : i = b
    · subst c1
      by_cases c2 : a = i <;> simp [c2]
    · by_cases c2 : i = a
      · subst c2; simp [c1]
      · simp [c1, c2]
def revI (n a i : Nat) : Nat := if a < i ∧ i < n then n + a - i else i
def revA (n a : Nat) (f : Nat → Nat) : Nat → Nat := fun i => f (revI n a i)
theorem revA_perm {n a : Nat} {f : Nat → Nat} (h : PermS n f) : PermS n (revA n a f) := by
  refine perm_comp (f := f) (π := revI n a) h (fun i hi => ?_) (fun i hi => ?_)
  · unfold revI; split <;> omega
  · unfold revI
    by_cases c : a < i ∧ i < n
    · rw [if_pos c, if_pos (by omega)]; omega
    · rw [if_neg c, if_neg c]
/-- the first t pairs of the tail are changed -/
def revK (n a t : Nat) (f : Nat → Nat) : Nat → Nat := fun i => if a < i ∧ i < n ∧ (i < a + 1 + t ∨ n - 1 - t < i) then f (n + a - i) else f i
theorem revK_0 (n a : Nat) (f : Nat → Nat) (i : Nat) : revK n a 0 f i = f i := by
  unfold revK
  rw [if_neg (by omega)]
theorem revK_step {n a t : Nat} {f : Nat → Nat} (h : a + 1 + t < n - 1 - t) (i : Nat) : swF (revK n a t f) (a + 1 + t) (n - 1 - t) i = revK n a (t + 1) f i := by
  unfold swF
  by_cases c1 : i = n - 1 - t
  · rw [if_pos c1]
    unfold revK
    rw [if_neg (by omega), if_pos (by omega)]
    congr 1
    omega
  · rw [if_neg c1]
    by_cases c2 : i = a + 1 + t
    · rw [if_pos c2]
      unfold revK
      rw [if_neg (by omega), if_pos (by omega)]
      congr 1
      omega
    · rw [if_neg c2]
      unfold revK
      by_cases c3 : a < i ∧ i < n ∧ (i < a + 1 + t ∨ n - 1 - t < i)
      · rw [if_pos c3, if_pos (by omega)]
      · rw [if_neg c3, if_neg (by omega)]
theorem revK_end {n a t : Nat} {f : Nat → Nat} (h : ¬ a + 1 + t < n - 1 - t) (i : Nat) (hi : i < n) : revK n a t f i = revA n a f i := by
  unfold revK revA revI
  by_cases c : a < i ∧ i < n
  · rw [if_pos c]
    by_cases c3 : a < i ∧ i < n ∧ (i < a + 1 + t ∨ n - 1 - t < i)
    · rw [if_pos c3]
    · rw [if_neg c3]
      congr 1
      omega
  · rw [if_neg c, if_neg (fun z => c ⟨z.1, z.2.1⟩)]
def ris (f : Nat → Nat) : Nat → Nat
  | 0 => 0
  | k + 1 => if f (k + 1) < f k then ris f k else k + 1
def abv (f : Nat → Nat) (a : Nat) : Nat → Nat
  | 0 => 0
  | k + 1 => if f (k + 1) < f a then abv f a k else k + 1
def nxF (n : Nat) (f : Nat → Nat) : Nat → Nat := if ris f (n - 1) = 0 then f else revA n (ris f (n - 1) - 1) (swF f (ris f (n - 1) - 1) (abv f (ris f (n - 1) - 1) (n - 1)))
theorem ris_le (f : Nat → Nat) : ∀ k, ris f k ≤ k
  | 0 => Nat.le_refl _
  | k + 1 => by
    unfold ris
    split
    · have := ris_le f k; omega
    · omega
theorem ris_up (f : Nat → Nat) : ∀ k, ris f k ≠ 0 → ¬ f (ris f k) < f (ris f k - 1)
  | 0, h => absurd rfl h
  | k + 1, h => by
    unfold ris at h ⊢
    by_cases c : f (k + 1) < f k
    · rw [if_pos c] at h ⊢
      exact ris_up f k h
    · rw [if_neg c] at h ⊢
      exact c
theorem abv_le (f : Nat → Nat) (a : Nat) : ∀ k, abv f a k ≤ k
  | 0 => Nat.le_refl _
  | k + 1 => by
    unfold abv
    split
    · have := abv_le f a k; omega
    · omega
theorem abv_ge {f : Nat → Nat} {a : Nat} (h : ¬ f (a + 1) < f a) : ∀ k, a + 1 ≤ k → a + 1 ≤ abv f a k
  | 0, hk => by omega
  | k + 1, hk => by
    unfold abv
    by_cases c : f (k + 1) < f a
    · rw [if_pos c]
      by_cases e : k + 1 = a + 1
      · rw [e] at c; exact absurd c h
      · exact abv_ge h k (by omega)
    · rw [if_neg c]; exact hk
theorem nxF_perm {n : Nat} {f : Nat → Nat} (h : PermS n f) : PermS n (nxF n f) := by
  unfold nxF
  split
  · exact h
  · rename_i c
    have h1 := ris_le f (n - 1)
    have h2 := abv_le f (ris f (n - 1) - 1) (n - 1)
    exact revA_perm (swF_perm h (by omega) (by omega))
-- swapSeats, swaps
theorem swp_c {p a b : Nat} {σ : Sg} (hp : p = 1 ∨ p = 2 ∨ p = 32) (ha : a < 7) (hb : b < 7) : Cal 27 [vR p, vI a, vI b] σ = some (vI 0, up (up σ p a (σ p b)) p b (σ p a)) := by
  show Run 27 0 _ _ _ = _
  have e0 := q27_0 p a b σ hp
  rw [wr_id (x := (a : Int)) (by omega) (by omega), wr_id (x := (b : Int)) (by omega) (by omega), if_pos (by omega), if_pos (by omega), if_pos (by omega), if_pos (by omega), toN, toN] at e0
  exact e0
theorem swp_m {a b : Nat} {σ : Sg} (ha : a < 7) (hb : b < 7) : Cal 110 [vR 40, vI a, vI b] σ = some (vI 0, up (up σ 48 a (σ 48 b)) 48 b (σ 48 a)) := by
  show Run 110 0 _ _ _ = _
  have e0 := q110_0 a b σ
  rw [wr_id (x := (a : Int)) (by omega) (by omega), wr_id (x := (b : Int)) (by omega) (by omega), if_pos (by omega), if_pos (by omega), if_pos (by omega), if_pos (by omega), toN, toN] at e0
  exact e0
-- the class's next seating
theorem nc_ris {n : Nat} {f : Nat → Nat} {σ : Sg} (hn : n ≤ 7) (hf : ∀ i, i < n → f i < 7) (hR : Rep σ 32 n f) : ∀ k, k < n → Run 28 4 [vR 29, vI n, vI ((k : Int) - 1), vJ, vJ, vJ] [] σ = Run 28 31 [vR 29, vI n, vI ((ris f k : Int) - 1), vJ, vJ, vJ] [] σ
  | 0, h => by
    rw [q28_4, if_pos (by rw [wr_id (by omega) (by omega)]; omega)]
    rfl
  | k + 1, h => by
    have ih := nc_ris hn hf hR k (by omega)
    have e1 : (((k + 1 : Nat) : Int) - 1) = (k : Int) := by omega
    have e2 : ((k : Int) + 1) = ((k + 1 : Nat) : Int) := by omega
    have e3 : ((k : Int) + (-1)) = ((k : Int) - 1) := by omega
    have l1 := hf (k + 1) h
    have l2 := hf k (by omega)
    rw [e1, q28_4, e2, e3, wr_id (x := (k : Int)) (by omega) (by omega), wr_id (x := ((k + 1 : Nat) : Int)) (by omega) (by omega), if_neg (by omega), if_pos (by omega), if_pos (by omega), toN, toN, hR _ h, hR k (by omega), wr_id (x := (f (k + 1) : Int)) (by omega) (by omega), wr_id (x := (f k : Int)) (by omega) (by omega)]
    unfold ris
    by_cases c : f (k + 1) < f k
    · rw [if_pos (by omega), if_pos c]
      exact ih
    · rw [if_neg (by omega), if_neg c, e1]
theorem nc_abv {n a : Nat} {f : Nat → Nat} {σ : Sg} (hn : n ≤ 7) (hf : ∀ i, i < n → f i < 7) (hR : Rep σ 32 n f) (ha : ¬ f (a + 1) < f a) (han : a < n) : ∀ k, k < n → a + 1 ≤ k → Run 28 40 [vR 29, vI n, vI a, vI k, vJ, vJ] [] σ = Run 28 68 [vR 29, vI n, vI a, vI ((abv f a k : Nat) : Int), vJ, vJ] [] σ
  | 0, h, h2 => by omega
  | k + 1, h, h2 => by
    have e3 : (((k + 1 : Nat) : Int) + (-1)) = (k : Int) := by omega
    have l1 := hf (k + 1) h
    have l2 := hf a han
    rw [q28_40, e3, wr_id (x := (a : Int) + 1) (by omega) (by omega), wr_id (x := ((k + 1 : Nat) : Int)) (by omega) (by omega)]
    unfold abv
    by_cases c0 : a + 1 < k + 1
    · rw [if_pos (by omega), if_pos (by omega), wr_id (x := (a : Int)) (by omega) (by omega), if_pos (by omega), toN, toN, hR _ h, hR a han, wr_id (x := (f (k + 1) : Int)) (by omega) (by omega), wr_id (x := (f a : Int)) (by omega) (by omega)]
      by_cases c : f (k + 1) < f a
      · rw [if_pos (by omega), if_pos c]
        exact nc_abv hn hf hR ha han k (by omega) (by omega)
      · rw [if_neg (by omega), if_neg c]
    · have e : k + 1 = a + 1 := by omega
      rw [if_neg (by omega), e, if_neg ha]
theorem nc_rev {n a : Nat} {f : Nat → Nat} (hn : n ≤ 7) (x3 : Int) : ∀ (d t : Nat) (σ : Sg), n - 1 - t ≤ d → a + t < n → Rep σ 32 n (revK n a t f) →
    ∃ σ', Run 28 87 [vR 29, vI n, vI a, vI x3, vI ((a + 1 + t : Nat) : Int), vI ((n : Int) - 1 - t)] [] σ = some (vI 0, σ') ∧ (∀ q, q ≠ 32 → σ' q = σ q) ∧ Rep σ' 32 n (revA n a f)
  | 0, t, σ, hd, ht, hR => by
    refine ⟨σ, ?_, fun _ _ => rfl, hR.to (fun i hi => revK_end (by omega) i hi)⟩
    rw [q28_87, wr_id (by omega) (by omega), wr_id (by omega) (by omega), if_neg (by omega)]
  | d + 1, t, σ, hd, ht, hR => by
    rw [q28_87, wr_id (by omega) (by omega), wr_id (by omega) (by omega)]
    by_cases c : a + 1 + t < n - 1 - t
    · rw [if_pos (by omega), show ((n : Int) - 1 - t) = ((n - 1 - t : Nat) : Int) by omega, swp_c (by omega) (by omega) (by omega), kcV_s]
      obtain ⟨σ', r1, r2, r3⟩ := nc_rev hn x3 d (t + 1) _ (by omega) (by omega) ((hR.sw (by omega) (by omega)).to (fun i _ => revK_step c i))
      refine ⟨σ', ?_, fun q hq => by rw [r2 q hq, up_ne hq, up_ne hq], r3⟩
      rw [show (((a + 1 + t : Nat) : Int) + 1) = ((a + 1 + (t + 1) : Nat) : Int) by omega, show (((n - 1 - t : Nat) : Int) + (-1)) = ((n : Int) - 1 - ((t + 1 : Nat) : Int)) by omega]
      exact r1
    · rw [if_neg (by omega)]
      exact ⟨σ, rfl, fun _ _ => rfl, hR.to (fun i hi => revK_end c i hi)⟩
/-- THE NEXT SEATING, in the class -/
theorem nc_all {n : Nat} {f : Nat → Nat} {σ : Sg} (hn : n ≤ 7) (hn1 : 0 < n) (hf : PermS n f) (hR : Rep σ 32 n f) :
    ∃ σ', Cal 28 [vR 29, vI n] σ = some (vI 0, σ') ∧ (∀ q, q ≠ 32 → σ' q = σ q) ∧ Rep σ' 32 n (nxF n f) := by
  have hf7 : ∀ i, i < n → f i < 7 := fun i hi => by have := hf.1 i hi; omega
  have e1 := nc_ris hn hf7 hR (n - 1) (by omega)
  have e0 : Cal 28 [vR 29, vI n] σ = Run 28 31 [vR 29, vI n, vI ((ris f (n - 1) : Int) - 1), vJ, vJ, vJ] [] σ := by
    show Run 28 0 _ _ _ = _
    refine (q28_0 _ _).trans ?_
    rw [show ((n : Int) - 2) = (((n - 1 : Nat) : Int) - 1) by omega]
    exact e1
  have hr := ris_le f (n - 1)
  rw [e0, q28_31, wr_id (by omega) (by omega)]
  by_cases c : ris f (n - 1) = 0
  · rw [if_pos (by omega)]
    refine ⟨σ, rfl, fun _ _ => rfl, ?_⟩
    unfold nxF
    rw [if_pos c]
    exact hR
  · rw [if_neg (by omega)]
    have hup := ris_up f (n - 1) c
    generalize hA : ris f (n - 1) - 1 = a at *
    have ea : ((ris f (n - 1) : Int) - 1) = (a : Int) := by omega
    have hup' : ¬ f (a + 1) < f a := by
      rw [show a + 1 = ris f (n - 1) by omega]
      exact hup
    rw [ea, show ((n : Int) - 1) = ((n - 1 : Nat) : Int) by omega, nc_abv hn hf7 hR hup' (by omega) (n - 1) (by omega) (by omega)]
    have hb := abv_le f a (n - 1)
    rw [q28_68, swp_c (by omega) (by omega) (by omega), kcV_s]
    obtain ⟨σ', r1, r2, r3⟩ := nc_rev (a := a) (f := swF f a (abv f a (n - 1))) hn ((abv f a (n - 1) : Nat) : Int) n 0 _ (by omega) (by omega) ((hR.sw (by omega : a < n) (by omega : abv f a (n - 1) < n)).to (fun i _ => (revK_0 _ _ _ i).symm))
    refine ⟨σ', ?_, fun q hq => by rw [r2 q hq, up_ne hq, up_ne hq], ?_⟩
    · rw [show ((n : Int) - 1 - ((0 : Nat) : Int)) = ((n : Int) - 1) by omega] at r1
      exact r1
    · unfold nxF
      rw [if_neg c, hA]
      exact r3
-- the reference's next seating
def hasN (n : Nat) (f : Nat → Nat) : Bool := decide (ris f (n - 1) ≠ 0)
theorem nm_ris {n : Nat} {f : Nat → Nat} {σ : Sg} (hn : n ≤ 7) (hf : ∀ i, i < n → f i < 7) (hR : Rep σ 48 n f) : ∀ k, k < n → Run 111 11 [vR 40, vI n, vI ((k : Int) - 1), vJ, vJ] [] σ = Run 111 38 [vR 40, vI n, vI ((ris f k : Int) - 1), vJ, vJ] [] σ
  | 0, h => by
    rw [q111_11, if_pos (by rw [wr_id (by omega) (by omega)]; omega)]
    rfl
  | k + 1, h => by
    have ih := nm_ris hn hf hR k (by omega)
    have e1 : (((k + 1 : Nat) : Int) - 1) = (k : Int) := by omega
    have e2 : ((k : Int) + 1) = ((k + 1 : Nat) : Int) := by omega
    have e3 : ((k : Int) + (-1)) = ((k : Int) - 1) := by omega
    have l1 := hf (k + 1) h
    have l2 := hf k (by omega)
    rw [e1, q111_11, e2, e3, wr_id (x := (k : Int)) (by omega) (by omega), wr_id (x := ((k + 1 : Nat) : Int)) (by omega) (by omega), if_neg (by omega), if_pos (by omega), if_pos (by omega), toN, toN, hR _ h, hR k (by omega), wr_id (x := (f (k + 1) : Int)) (by omega) (by omega), wr_id (x := (f k : Int)) (by omega) (by omega)]
    unfold ris
    by_cases c : f (k + 1) < f k
    · rw [if_pos (by omega), if_pos c]
      exact ih
    · rw [if_neg (by omega), if_neg c, e1]
theorem nm_abv {n a : Nat} {f : Nat → Nat} {σ : Sg} (hn : n ≤ 7) (hf : ∀ i, i < n → f i < 7) (hR : Rep σ 48 n f) (ha : ¬ f (a + 1) < f a) (han : a < n) : ∀ k, k < n → a + 1 ≤ k → Run 111 48 [vR 40, vI n, vI a, vI k, vJ] [] σ = kcV (Cal 110 [vR 40, vI a, vI ((abv f a k : Nat) : Int)] σ) (fun s1 => Run 111 78 [vR 40, vI n, vI a, vI ((abv f a k : Nat) : Int), vI 0] [] s1)
  | 0, h, h2 => by omega
  | k + 1, h, h2 => by
    have e3 : (((k + 1 : Nat) : Int) + (-1)) = (k : Int) := by omega
    have l1 := hf (k + 1) h
    have l2 := hf a han
    rw [q111_48, e3, wr_id (x := ((k + 1 : Nat) : Int)) (by omega) (by omega), if_pos (by omega), wr_id (x := (a : Int)) (by omega) (by omega), if_pos (by omega), toN, toN, hR _ h, hR a han, wr_id (x := (f (k + 1) : Int)) (by omega) (by omega), wr_id (x := (f a : Int)) (by omega) (by omega)]
    unfold abv
    by_cases c : f (k + 1) < f a
    · have hk : a + 1 ≤ k := by
        rcases Nat.lt_or_ge k (a + 1) with q | q
        · rw [show k + 1 = a + 1 by omega] at c
          exact absurd c ha
        · exact q
      rw [if_pos (by omega), if_pos c]
      exact nm_abv hn hf hR ha han k (by omega) hk
    · rw [if_neg (by omega), if_neg c]
theorem nm_rev {n a : Nat} {f : Nat → Nat} (hn : n ≤ 7) (x3 : Int) : ∀ (d t : Nat) (σ : Sg), n - 1 - t ≤ d → a + t < n → Rep σ 48 n (revK n a t f) →
    ∃ σ', Run 111 78 [vR 40, vI n, vI a, vI x3, vI t] [] σ = some (vI 1, σ') ∧ (∀ q, q ≠ 48 → σ' q = σ q) ∧ Rep σ' 48 n (revA n a f)
  | 0, t, σ, hd, ht, hR => by
    refine ⟨σ, ?_, fun _ _ => rfl, hR.to (fun i hi => revK_end (by omega) i hi)⟩
    rw [q111_78, wr_id (by omega) (by omega), wr_id (by omega) (by omega), if_neg (by omega), if_pos (Or.inr rfl)]
  | d + 1, t, σ, hd, ht, hR => by
    rw [q111_78, wr_id (by omega) (by omega), wr_id (by omega) (by omega)]
    by_cases c : a + 1 + t < n - 1 - t
    · rw [if_pos (by omega), show ((n : Int) - 1 - t) = ((n - 1 - t : Nat) : Int) by omega, show ((a : Int) + 1 + t) = ((a + 1 + t : Nat) : Int) by omega, swp_m (by omega) (by omega), kcV_s]
      obtain ⟨σ', r1, r2, r3⟩ := nm_rev hn x3 d (t + 1) _ (by omega) (by omega) ((hR.sw (by omega) (by omega)).to (fun i _ => revK_step c i))
      exact ⟨σ', r1, fun q hq => by rw [r2 q hq, up_ne hq, up_ne hq], r3⟩
    · rw [if_neg (by omega), if_pos (Or.inr rfl)]
      exact ⟨σ, rfl, fun _ _ => rfl, hR.to (fun i hi => revK_end c i hi)⟩
/-- THE NEXT SEATING, in the reference -/
theorem nm_all {n : Nat} {f : Nat → Nat} {σ : Sg} (hn : n ≤ 7) (hn1 : 0 < n) (h0 : σ 42 0 = n) (hf : PermS n f) (hR : Rep σ 48 n f) :
    ∃ σ', Cal 111 [vR 40] σ = some (vI (if hasN n f = true then 1 else 0), σ') ∧ (∀ q, q ≠ 48 → σ' q = σ q) ∧ Rep σ' 48 n (nxF n f) := by
  have hf7 : ∀ i, i < n → f i < 7 := fun i hi => by have := hf.1 i hi; omega
  have e1 := nm_ris hn hf7 hR (n - 1) (by omega)
  have e0 : Cal 111 [vR 40] σ = Run 111 38 [vR 40, vI n, vI ((ris f (n - 1) : Int) - 1), vJ, vJ] [] σ := by
    show Run 111 0 _ _ _ = _
    have e2 := q111_0 σ
    rw [wr_0, if_pos (by omega), Int.toNat_zero, h0, show ((n : Int) - 2) = (((n - 1 : Nat) : Int) - 1) by omega] at e2
    exact e2.trans e1
  have hr := ris_le f (n - 1)
  rw [e0, q111_38, wr_id (by omega) (by omega)]
  by_cases c : ris f (n - 1) = 0
  · rw [if_pos (by omega), if_pos (Or.inl rfl)]
    refine ⟨σ, by simp [hasN, c], fun _ _ => rfl, ?_⟩
    unfold nxF
    rw [if_pos c]
    exact hR
  · rw [if_neg (by omega)]
    have hh : hasN n f = true := by simp [hasN, c]
    have hup := ris_up f (n - 1) c
    generalize hA : ris f (n - 1) - 1 = a at *
    have ea : ((ris f (n - 1) : Int) - 1) = (a : Int) := by omega
    have hup' : ¬ f (a + 1) < f a := by
      rw [show a + 1 = ris f (n - 1) by omega]
      exact hup
    rw [ea, show ((n : Int) - 1) = ((n - 1 : Nat) : Int) by omega, nm_abv hn hf7 hR hup' (by omega) (n - 1) (by omega) (by omega)]
    have hb := abv_le f a (n - 1)
    rw [swp_m (by omega) (by omega), kcV_s]
    obtain ⟨σ', r1, r2, r3⟩ := nm_rev (a := a) (f := swF f a (abv f a (n - 1))) hn ((abv f a (n - 1) : Nat) : Int) n 0 _ (by omega) (by omega) ((hR.sw (by omega : a < n) (by omega : abv f a (n - 1) < n)).to (fun i _ => (revK_0 _ _ _ i).symm))
    refine ⟨σ', by rw [if_pos hh]; exact r1, fun q hq => by rw [r2 q hq, up_ne hq, up_ne hq], ?_⟩
    unfold nxF
    rw [if_neg c, hA]
    exact r3
-- the first seating, in the reference
theorem fs_loop {n : Nat} (hn : n ≤ 7) : ∀ (d k : Nat) (σ : Sg), k + d = n → σ 42 0 = n → (∀ i, i < k → σ 48 i = (i : Int)) →
    ∃ σ', Run 109 2 [vR 40, vI k] [] σ = some (vI 0, σ') ∧ (∀ q, q ≠ 48 → σ' q = σ q) ∧ Rep σ' 48 n (fun i => i)
  | 0, k, σ, h, h0, hR => by
    refine ⟨σ, ?_, fun _ _ => rfl, fun i hi => hR i (by omega)⟩
    rw [q109_2, wr_0, if_pos (by omega), Int.toNat_zero, h0, if_neg (by rw [wr_id (by omega) (by omega), wr_id (by omega) (by omega)]; omega)]
  | d + 1, k, σ, h, h0, hR => by
    obtain ⟨σ', r1, r2, r3⟩ := fs_loop hn d (k + 1) (up σ 48 k k) (by omega) (by rw [up_p _ _ _ (by decide)]; exact h0) (fun i hi => by
      rw [up_j]
      by_cases c : i = k
      · rw [if_pos c, c]
      · rw [if_neg c]; exact hR i (by omega))
    refine ⟨σ', ?_, fun q hq => by rw [r2 q hq, up_ne hq], r3⟩
    rw [q109_2, wr_0, if_pos (by omega), Int.toNat_zero, h0, wr_id (x := (k : Int)) (by omega) (by omega), wr_id (x := (n : Int)) (by omega) (by omega), if_pos (by omega), if_pos (by omega), toN]
    exact r1
theorem fs_all {n : Nat} {σ : Sg} (hn : n ≤ 7) (h0 : σ 42 0 = n) : ∃ σ', Cal 109 [vR 40] σ = some (vI 0, σ') ∧ (∀ q, q ≠ 48 → σ' q = σ q) ∧ Rep σ' 48 n (fun i => i) := by
  obtain ⟨σ', r1, r2, r3⟩ := fs_loop hn n 0 σ (by omega) h0 (fun i hi => by omega)
  exact ⟨σ', (q109_0 σ).trans r1, r2, r3⟩
/-- the k-th seating -/
def pmF (n : Nat) : Nat → Nat → Nat
  | 0 => fun i => i
  | k + 1 => nxF n (pmF n k)
theorem id_perm (n : Nat) : PermS n (fun i => i) := ⟨fun _ h => h, fun _ _ _ _ h => h, fun v hv => ⟨v, hv, rfl⟩⟩
theorem pmF_perm (n : Nat) : ∀ k, PermS n (pmF n k)
  | 0 => id_perm n
  | k + 1 => nxF_perm (pmF_perm n k)
