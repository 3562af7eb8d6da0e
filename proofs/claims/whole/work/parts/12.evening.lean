/-! AN EVENING: what is played, by seats, gaps and bribes; then the class's Evening does it -/
def PermS (n : Nat) (ss : Nat → Nat) : Prop := (∀ s, s < n → ss s < n) ∧ (∀ s t, s < n → t < n → ss s = ss t → s = t) ∧ (∀ v, v < n → ∃ s, s < n ∧ ss s = v)
/-- i and j sit beside each other -/
def nbr (n : Nat) (ss : Nat → Nat) (g i j : Nat) : Bool := (List.range (n - 1)).any fun k => !g.testBit k && ((ss k == i && ss (k + 1) == j) || (ss k == j && ss (k + 1) == i))
theorem nbr_iff {n : Nat} {ss : Nat → Nat} {g i j : Nat} : nbr n ss g i j = true ↔ ∃ k, k + 1 < n ∧ g.testBit k = false ∧ ((ss k = i ∧ ss (k + 1) = j) ∨ (ss k = j ∧ ss (k + 1) = i)) := by
  unfold nbr
  rw [List.any_eq_true]
  constructor
  · rintro ⟨k, hk, h⟩
    rw [List.mem_range] at hk
    simp only [Bool.and_eq_true, Bool.or_eq_true, beq_iff_eq, Bool.not_eq_true'] at h
    exact ⟨k, by omega, h.1, h.2⟩
  · rintro ⟨k, hk, h1, h2⟩
    refine ⟨k, List.mem_range.mpr (by omega), ?_⟩
    simp only [Bool.and_eq_true, Bool.or_eq_true, beq_iff_eq, Bool.not_eq_true']
    exact ⟨h1, h2⟩
/-- who is beside i, as bits -/
def bsM (n : Nat) (ss : Nat → Nat) (g i : Nat) : Nat := mk n (nbr n ss g i)
theorem bsM_lt (n : Nat) (ss : Nat → Nat) (g i : Nat) : bsM n ss g i < 2 ^ n := mk_lt _ _
def wantsS (n : Nat) (kk mm : Nat → Nat) (ss : Nat → Nat) (g bb i bar ah : Nat) : Bool :=
  bb.testBit i || kk i == 0 || (if kk i = 1 then !(bsM n ss g i).testBit (mm i) else bar == 0 || (if kk i = 2 then ah.testBit (mm i) else bsM n ss g i &&& ah == 0))
def nowS (n : Nat) (kk mm aa ss : Nat → Nat) (g bb bar ah : Nat) : Nat := mk n fun i => (aa bar).testBit i && wantsS n kk mm ss g bb i bar ah
/-- who plays in a bar, as bits -/
def plS (n : Nat) (kk mm aa ss : Nat → Nat) (g bb : Nat) : Nat → Nat
  | 0 => nowS n kk mm aa ss g bb 0 0
  | b + 1 => nowS n kk mm aa ss g bb (b + 1) (plS n kk mm aa ss g bb b)
theorem nowS_lt (n : Nat) (kk mm aa ss : Nat → Nat) (g bb bar ah : Nat) : nowS n kk mm aa ss g bb bar ah < 2 ^ n := mk_lt _ _
theorem plS_lt (n : Nat) (kk mm aa ss : Nat → Nat) (g bb b : Nat) : plS n kk mm aa ss g bb b < 2 ^ n := by
  cases b <;> exact mk_lt _ _
def ahS (n : Nat) (kk mm aa ss : Nat → Nat) (g bb : Nat) : Nat → Nat
  | 0 => 0
  | b + 1 => plS n kk mm aa ss g bb b
theorem ahS_lt (n : Nat) (kk mm aa ss : Nat → Nat) (g bb b : Nat) : ahS n kk mm aa ss g bb b < 2 ^ n := by
  cases b
  · exact Nat.two_pow_pos n
  · exact plS_lt _ _ _ _ _ _ _ _
theorem plS_eq (n : Nat) (kk mm aa ss : Nat → Nat) (g bb b : Nat) : plS n kk mm aa ss g bb b = nowS n kk mm aa ss g bb b (ahS n kk mm aa ss g bb b) := by
  cases b <;> rfl
/-- notes, whole bars, in the first b bars -/
def ntS (n : Nat) (kk mm aa ss : Nat → Nat) (g bb : Nat) : Nat → Nat
  | 0 => 0
  | b + 1 => ntS n kk mm aa ss g bb b + popc 8 (plS n kk mm aa ss g bb b)
def whS (n : Nat) (kk mm aa ss : Nat → Nat) (g bb : Nat) : Nat → Nat
  | 0 => 0
  | b + 1 => whS n kk mm aa ss g bb b + (if plS n kk mm aa ss g bb b = aa b then 1 else 0)
theorem ntS_le (n : Nat) (kk mm aa ss : Nat → Nat) (g bb b : Nat) : ntS n kk mm aa ss g bb b ≤ 8 * b := by
  induction b with
  | zero => exact Nat.le_refl _
  | succ b ih => unfold ntS; have := popc_le 8 (plS n kk mm aa ss g bb b); omega
theorem whS_le (n : Nat) (kk mm aa ss : Nat → Nat) (g bb b : Nat) : whS n kk mm aa ss g bb b ≤ b := by
  induction b with
  | zero => exact Nat.le_refl _
  | succ b ih => unfold whS; split <;> omega
-- THE CLASS: lookAround
def lfM (ss : Nat → Nat) (g s : Nat) : Nat := if 0 < s ∧ g.testBit (s - 1) = false then 2 ^ ss (s - 1) else 0
def rtM (n : Nat) (ss : Nat → Nat) (g s : Nat) : Nat := if s + 1 < n ∧ g.testBit s = false then 2 ^ ss (s + 1) else 0
theorem p2_lt {k n : Nat} (h : k < n) : 2 ^ k < 2 ^ n := Nat.pow_lt_pow_right (by decide) h
theorem p2_7 {n : Nat} (h : n ≤ 7) : 2 ^ n ≤ 128 := (Nat.pow_le_pow_right (by decide : 2 > 0) h : 2 ^ n ≤ 2 ^ 7)
theorem lr_bs {n : Nat} {ss : Nat → Nat} {g s : Nat} (hp : PermS n ss) (hs : s < n) : lfM ss g s ||| rtM n ss g s = bsM n ss g (ss s) := by
  have h1 : lfM ss g s < 2 ^ n := by
    unfold lfM
    split
    · exact p2_lt (hp.1 _ (by omega))
    · exact Nat.two_pow_pos n
  have h2 : rtM n ss g s < 2 ^ n := by
    unfold rtM
    split
    · rename_i h; exact p2_lt (hp.1 _ h.1)
    · exact Nat.two_pow_pos n
  refine eq_mask (Nat.or_lt_two_pow h1 h2) (bsM_lt _ _ _ _) (fun i hi => ?_)
  have e1 : (lfM ss g s).testBit i = decide (0 < s ∧ g.testBit (s - 1) = false ∧ ss (s - 1) = i) := by
    unfold lfM
    by_cases h : 0 < s ∧ g.testBit (s - 1) = false
    · rw [if_pos h, Nat.testBit_two_pow]
      simp [h]
    · rw [if_neg h]
      simp only [Nat.zero_testBit]
      symm
      rw [decide_eq_false_iff_not]
      exact fun z => h ⟨z.1, z.2.1⟩
  have e2 : (rtM n ss g s).testBit i = decide (s + 1 < n ∧ g.testBit s = false ∧ ss (s + 1) = i) := by
    unfold rtM
    by_cases h : s + 1 < n ∧ g.testBit s = false
    · rw [if_pos h, Nat.testBit_two_pow]
      simp [h]
    · rw [if_neg h]
      simp only [Nat.zero_testBit]
      symm
      rw [decide_eq_false_iff_not]
      exact fun z => h ⟨z.1, z.2.1⟩
  have e3 : (bsM n ss g (ss s)).testBit i = nbr n ss g (ss s) i := by
    unfold bsM
    rw [mk_bit]
    simp [hi]
  rw [Nat.testBit_or, e1, e2, e3, Bool.eq_iff_iff, Bool.or_eq_true, decide_eq_true_iff, decide_eq_true_iff, nbr_iff]
  constructor
  · rintro (⟨a, b, c⟩ | ⟨a, b, c⟩)
    · exact ⟨s - 1, by omega, b, Or.inr ⟨c, by rw [show s - 1 + 1 = s by omega]⟩⟩
    · exact ⟨s, a, b, Or.inl ⟨rfl, c⟩⟩
  · rintro ⟨k, hk, hg, ⟨a, b⟩ | ⟨a, b⟩⟩
    · have := hp.2.1 k s (by omega) hs a
      subst this
      exact Or.inr ⟨hk, hg, b⟩
    · have := hp.2.1 (k + 1) s (by omega) hs b
      subst this
      exact Or.inl ⟨by omega, hg, a⟩
theorem look_step {e p n s : Nat} {g : Nat} {ss : Nat → Nat} {σ : Sg} (he : e = 26 ∨ e = 34 ∨ e = 37) (hp : p = 1 ∨ p = 2 ∨ p = 32) (hn : n ≤ 7) (hg : g < 2147483648) (hs : s < n) (hpm : PermS n ss) (hσ : ∀ i, i < n → σ p i = ss i) (d5 d6 : AV) :
    ∃ d5' d6', Run 9 3 [vR e, vI n, vR p, vI g, vI s, d5, d6] [] σ = Run 9 3 [vR e, vI n, vR p, vI g, vI ((s + 1 : Nat) : Int), d5', d6'] [] (up σ (e + 1) (ss s) ((bsM n ss g (ss s) : Nat) : Int)) := by
  have hss := hpm.1 s hs
  have A : ∃ x : Int, x = (if 0 < s ∧ g.testBit (s - 1) = false then 1 else 0) ∧ Run 9 3 [vR e, vI n, vR p, vI g, vI s, d5, d6] [] σ = Run 9 30 [vR e, vI n, vR p, vI g, vI s, d5, d6] [vI x] σ := by
    refine ⟨_, rfl, ?_⟩
    rw [q9_3 _ _ _ _ _ _ _ _ he hp, wr_id (by omega) (by omega), wr_id (by omega) (by omega), if_pos (by omega)]
    by_cases h0 : 0 < s
    · rw [if_pos (by omega), show ((s : Int) - 1) = ((s - 1 : Nat) : Int) by omega]
      by_cases h1 : g.testBit (s - 1) = false
      · rw [if_pos ((bit_0 _ _ hg (by omega)).mpr h1), if_pos ⟨h0, h1⟩]
      · rw [if_neg (fun z => h1 ((bit_0 _ _ hg (by omega)).mp z)), if_neg (fun z => h1 z.2)]
    · rw [if_neg (by omega), if_neg (fun z => h0 z.1)]
  obtain ⟨x, hx, A⟩ := A
  have B : ∃ y : Int, y = (if s + 1 < n ∧ g.testBit s = false then 1 else 0) ∧ Run 9 30 [vR e, vI n, vR p, vI g, vI s, d5, d6] [vI x] σ = Run 9 54 [vR e, vI n, vR p, vI g, vI s, vI x, d6] [vI y] σ := by
    refine ⟨_, rfl, ?_⟩
    rw [q9_30 _ _ _ _ _ _ _ _ _ he hp, wr_id (by omega) (by omega), wr_id (by omega) (by omega)]
    by_cases h0 : s + 1 < n
    · rw [if_pos (by omega)]
      by_cases h1 : g.testBit s = false
      · rw [if_pos ((bit_0 _ _ hg (by omega)).mpr h1), if_pos ⟨h0, h1⟩]
      · rw [if_neg (fun z => h1 ((bit_0 _ _ hg (by omega)).mp z)), if_neg (fun z => h1 z.2)]
    · rw [if_neg (by omega), if_neg (fun z => h0 z.1)]
  obtain ⟨y, hy, B⟩ := B
  have hl : lfM ss g s < 2147483648 := by
    unfold lfM
    split
    · have := p2_lt (hpm.1 (s - 1) (by omega)); have := p2_7 hn; omega
    · decide
  have hr : rtM n ss g s < 2147483648 := by
    unfold rtM
    split
    · rename_i h; have := p2_lt (hpm.1 (s + 1) h.1); have := p2_7 hn; omega
    · decide
  have C : Run 9 54 [vR e, vI n, vR p, vI g, vI s, vI x, d6] [vI y] σ = Run 9 81 [vR e, vI n, vR p, vI g, vI s, vI x, vI y] [vI ((lfM ss g s : Nat) : Int), vI (ss s), vR (e + 1)] σ := by
    rw [q9_54 _ _ _ _ _ _ _ _ _ he hp, wr_id (x := (s : Int)) (by omega) (by omega), if_pos (by omega), toN, hσ s hs]
    unfold lfM
    by_cases h0 : 0 < s ∧ g.testBit (s - 1) = false
    · rw [if_pos h0] at hx
      rw [if_neg (by rw [hx]; decide), show ((s : Int) - 1) = ((s - 1 : Nat) : Int) by omega, wr_id (by omega) (by omega), if_pos (by omega), toN, hσ _ (by omega), bsl1_n _ (by have := hpm.1 (s - 1) (by omega); omega), if_pos h0]
    · rw [if_neg h0] at hx
      rw [if_pos (by rw [hx]; decide), if_neg h0]
      rfl
  have hx9 : e + 1 = 27 ∨ e + 1 = 35 ∨ e + 1 = 38 := by omega
  refine ⟨vI x, vI y, ?_⟩
  rw [A, B, C, q9_81 _ _ _ _ _ _ _ _ _ _ _ he hp hx9, ← lr_bs hpm hs]
  have w1 : wr (ss s : Int) = ss s := wr_id (by omega) (by omega)
  rw [w1, toN, show ((s : Int) + 1) = ((s + 1 : Nat) : Int) by omega]
  unfold rtM
  by_cases h0 : s + 1 < n ∧ g.testBit s = false
  · rw [if_pos h0] at hy
    rw [if_neg (by rw [hy]; decide), wr_id (by omega) (by omega), if_pos (by omega), if_pos (by omega), toN, hσ _ h0.1, bsl1_n _ (by have := hpm.1 (s + 1) h0.1; omega), if_pos h0, bor_n _ _ hl (by have := p2_lt (hpm.1 (s + 1) h0.1); have := p2_7 hn; omega)]
  · rw [if_neg h0] at hy
    rw [if_pos (by rw [hy]; decide), if_pos (by omega), if_neg h0]
    have e0 : bor ((lfM ss g s : Nat) : Int) 0 = ((lfM ss g s ||| 0 : Nat) : Int) := bor_n _ 0 hl (by decide)
    rw [e0]
theorem look_loop {e p n g : Nat} {ss : Nat → Nat} (he : e = 26 ∨ e = 34 ∨ e = 37) (hp : p = 1 ∨ p = 2 ∨ p = 32) (hn : n ≤ 7) (hg : g < 2147483648) (hpm : PermS n ss) : ∀ (d s : Nat) (σ : Sg) (d5 d6 : AV), s + d = n → (∀ i, i < n → σ p i = ss i) →
    ∃ σ', Run 9 3 [vR e, vI n, vR p, vI g, vI s, d5, d6] [] σ = some (vI 0, σ') ∧ (∀ q, q ≠ e + 1 → σ' q = σ q) ∧ (∀ t, s ≤ t → t < n → σ' (e + 1) (ss t) = ((bsM n ss g (ss t) : Nat) : Int)) ∧ (∀ j, (∀ t, s ≤ t → t < n → ss t ≠ j) → σ' (e + 1) j = σ (e + 1) j)
  | 0, s, σ, d5, d6, h, hσ => by
    refine ⟨σ, ?_, fun _ _ => rfl, fun t h1 h2 => by omega, fun _ _ => rfl⟩
    rw [q9_3 _ _ _ _ _ _ _ _ he hp, wr_id (by omega) (by omega), wr_id (by omega) (by omega), if_neg (by omega)]
  | d + 1, s, σ, d5, d6, h, hσ => by
    obtain ⟨d5', d6', e1⟩ := look_step he hp hn hg (by omega : s < n) hpm hσ d5 d6
    obtain ⟨σ', h1, h2, h3, h4⟩ := look_loop he hp hn hg hpm d (s + 1) (up σ (e + 1) (ss s) ((bsM n ss g (ss s) : Nat) : Int)) d5' d6' (by omega) (fun i hi => by rw [up_p _ _ _ (by omega)]; exact hσ i hi)
    refine ⟨σ', e1.trans h1, fun q hq => (h2 q hq).trans (up_ne hq), fun t ht1 ht2 => ?_, fun j hj => ?_⟩
    · rcases Nat.eq_or_lt_of_le ht1 with q | q
      · subst q
        rw [h4 (ss s) (fun t h5 h6 z => by have := hpm.2.1 t s h6 (by omega) z; omega), up_e]
      · exact h3 t q ht2
    · rw [h4 j (fun t h5 h6 => hj t (by omega) h6), up_j, if_neg (fun z => hj s (Nat.le_refl _) (by omega) z.symm)]
theorem look_all {e p n g : Nat} {ss : Nat → Nat} {σ : Sg} (he : e = 26 ∨ e = 34 ∨ e = 37) (hp : p = 1 ∨ p = 2 ∨ p = 32) (hn : n ≤ 7) (hg : g < 2147483648) (hpm : PermS n ss) (hσ : ∀ i, i < n → σ p i = ss i) :
    ∃ σ', Cal 9 [vR e, vI n, vR p, vI g] σ = some (vI 0, σ') ∧ (∀ q, q ≠ e + 1 → σ' q = σ q) ∧ (∀ i, i < n → σ' (e + 1) i = ((bsM n ss g i : Nat) : Int)) := by
  obtain ⟨σ', h1, h2, h3, -⟩ := look_loop he hp hn hg hpm n 0 σ vJ vJ (by omega) hσ
  refine ⟨σ', ?_, h2, fun i hi => ?_⟩
  · show Run 9 0 _ _ _ = _
    exact (q9_0 _ _ _ _ _ he hp).trans h1
  · obtain ⟨t, ht, rfl⟩ := hpm.2.2 i hi
    exact h3 t (Nat.zero_le _) ht
/-- the class's band: n instruments of kinds kk that mind mm, B bars asking aa -/
def BandC (σ : Sg) (n B : Nat) (kk mm aa : Nat → Nat) : Prop :=
  σ 20 3 = n ∧ n ≤ 7 ∧ σ 20 5 = B ∧ B ≤ 8 ∧ (∀ i, i < n → σ 21 i = kk i ∧ kk i < 4) ∧ (∀ i, i < n → σ 22 i = mm i ∧ mm i < n) ∧ (∀ b, b < B → σ 24 b = aa b ∧ aa b < 2 ^ n)
theorem BandC.kept {σ σ' : Sg} {n B : Nat} {kk mm aa : Nat → Nat} (h : BandC σ n B kk mm aa) (h0 : σ' 20 = σ 20) (h1 : σ' 21 = σ 21) (h2 : σ' 22 = σ 22) (h4 : σ' 24 = σ 24) : BandC σ' n B kk mm aa := by
  unfold BandC
  rw [h0, h1, h2, h4]
  exact h
/-- who comes in anyway, of the first k -/
def fmS (n : Nat) (kk mm ss : Nat → Nat) (g bb k : Nat) : Nat := bb ||| mk k (fun i => kk i == 0 || (kk i == 1 && !(bsM n ss g i).testBit (mm i)))
theorem or_mk (b k : Nat) (f : Nat → Bool) : b ||| mk (k + 1) f = (b ||| mk k f) ||| (if f k = true then 2 ^ k else 0) := by
  show b ||| (mk k f ||| _) = _
  rw [Nat.or_assoc]
theorem or_lt7 {n a b : Nat} (hn : n ≤ 7) (ha : a < 2 ^ n) (hb : b < 2 ^ n) : a ||| b < 2147483648 := by
  have := Nat.or_lt_two_pow ha hb
  have := p2_7 hn
  omega
theorem any_loop {e n B g bb : Nat} {kk mm aa ss : Nat → Nat} {σ : Sg} (he : e = 26 ∨ e = 34 ∨ e = 37) (hB : BandC σ n B kk mm aa) (hbb : bb < 2 ^ n) (hbs : ∀ i, i < n → σ (e + 1) i = ((bsM n ss g i : Nat) : Int)) : ∀ (d k : Nat) (x5 : AV), k + d = n →
    Run 10 5 [vR e, vR 20, vI bb, vI ((fmS n kk mm ss g bb k : Nat) : Int), vI k, x5] [] σ = some (vI ((fmS n kk mm ss g bb n : Nat) : Int), σ)
  | 0, k, x5, h => by
    have hk : k = n := by omega
    subst hk
    rw [q10_5 _ _ _ _ _ _ he, hB.1, wr_id (by have := hB.2.1; omega) (by have := hB.2.1; omega), if_neg (by omega)]
  | d + 1, k, x5, h => by
    obtain ⟨h1, h2, h3, h4, h5, h6, h7⟩ := hB
    have hk : k < n := by omega
    have ih := any_loop (bb := bb) (ss := ss) (g := g) he ⟨h1, h2, h3, h4, h5, h6, h7⟩ hbb hbs d (k + 1)
    have hbk := bsM_lt n ss g k
    have hp7 := p2_7 h2
    have fl : fmS n kk mm ss g bb k < 2 ^ n := Nat.or_lt_two_pow hbb (Nat.lt_of_lt_of_le (mk_lt _ _) (Nat.pow_le_pow_right (by decide) (by omega)))
    have add : ∀ x5' : AV, (kk k == 0 || (kk k == 1 && !(bsM n ss g k).testBit (mm k))) = true → Run 10 5 [vR e, vR 20, vI bb, vI (bor ((fmS n kk mm ss g bb k : Nat) : Int) (bsl 1 (k : Int))), vI ((k : Int) + 1), x5'] [] σ = some (vI ((fmS n kk mm ss g bb n : Nat) : Int), σ) := fun x5' hc => by
      have e1 : bor ((fmS n kk mm ss g bb k : Nat) : Int) (bsl 1 (k : Int)) = ((fmS n kk mm ss g bb (k + 1) : Nat) : Int) := by
        rw [bsl1_n k (by omega), bor_n _ _ (by omega) (by have := p2_lt hk; omega)]
        unfold fmS
        rw [or_mk, if_pos hc]
      rw [e1]
      exact ih x5' (by omega)
    have skip : ∀ x5' : AV, ¬ (kk k == 0 || (kk k == 1 && !(bsM n ss g k).testBit (mm k))) = true → Run 10 5 [vR e, vR 20, vI bb, vI ((fmS n kk mm ss g bb k : Nat) : Int), vI ((k : Int) + 1), x5'] [] σ = some (vI ((fmS n kk mm ss g bb n : Nat) : Int), σ) := fun x5' hc => by
      have e1 : fmS n kk mm ss g bb k = fmS n kk mm ss g bb (k + 1) := by
        unfold fmS
        rw [or_mk, if_neg hc, Nat.or_zero]
      rw [e1]
      exact ih x5' (by omega)
    have wk : wr (k : Int) = k := wr_id (by omega) (by omega)
    rw [q10_5 _ _ _ _ _ _ he, h1, wk, wr_id (x := (n : Int)) (by omega) (by omega), if_pos (by omega), if_pos (by omega), toN, (h5 k hk).1, wr_id (x := (kk k : Int)) (by have := (h5 k hk).2; omega) (by have := (h5 k hk).2; omega), (h6 k hk).1, hbs k hk, wr_1]
    by_cases c0 : kk k = 0
    · rw [if_pos (by omega), q10_54 _ _ _ _ _ _ he]
      exact add _ (by simp [c0])
    · rw [if_neg (by omega)]
      by_cases c1 : kk k = 1
      · rw [if_pos (by omega), if_pos (by omega), if_pos (by omega)]
        by_cases c2 : (bsM n ss g k).testBit (mm k) = false
        · rw [if_pos ((bit_0 _ _ (by omega) (by have := (h6 k hk).2; omega)).mpr c2), q10_54 _ _ _ _ _ _ he]
          exact add _ (by simp [c1, c2])
        · rw [if_neg (fun z => c2 ((bit_0 _ _ (by omega) (by have := (h6 k hk).2; omega)).mp z))]
          exact skip _ (by simp [c1, c2])
      · rw [if_neg (by omega)]
        exact skip _ (by simp [c0, c1])
theorem any_all {e n B g bb : Nat} {kk mm aa ss : Nat → Nat} {σ : Sg} (he : e = 26 ∨ e = 34 ∨ e = 37) (hB : BandC σ n B kk mm aa) (hbb : bb < 2 ^ n) (hbs : ∀ i, i < n → σ (e + 1) i = ((bsM n ss g i : Nat) : Int)) :
    Cal 10 [vR e, vR 20, vI bb] σ = some (vI ((fmS n kk mm ss g bb n : Nat) : Int), σ) := by
  show Run 10 0 _ _ _ = _
  have e0 : ((bb : Nat) : Int) = ((fmS n kk mm ss g bb 0 : Nat) : Int) := by
    unfold fmS mk
    rw [Nat.or_zero]
  have h := any_loop he hB hbb hbs n 0 vJ (by omega)
  rw [← e0] at h
  exact (q10_0 _ _ _ he).trans h
