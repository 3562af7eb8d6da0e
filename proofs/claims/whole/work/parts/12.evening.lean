/-! AN EVENING: what is played, by seats, gaps and bribes; then the class's Evening does it -/
def PermS (n : Nat) (ss : Nat → Nat) : Prop := (∀ s, s < n → ss s < n) ∧ (∀ s t, s < n → t < n → ss s = ss t → s = t) ∧ (∀ v, v < n → ∃ s, s < n ∧ ss s = v)
/-- i and j sit beside each other -/
def nbr (n : Nat) (ss : Nat → Nat) (g i j : Nat) : Bool := (List.range (n - 1)).any fun k => !g.testBit k && ((ss k == i && ss (k + 1) == j) || (ss k == j && ss (k + 1) == i))
theorem nbr_iff {n : Nat} {ss : Nat → Nat} {g i j : Nat} : nbr n ss g i j = true ↔ ∃ k, k + 1 < n ∧ g.testBit k = false ∧ ((ss k = i ∧ ss (k + 1) = j) ∨ (ss k = j ∧ ss (k + 1) = i)) := by
  unfold nbr
  rw [List.any_eq_true]
  constructor
  · rintro ⟨k, hk, h⟩
    rw [List.mem_range] at hk
    simp only [Bool.and_eq_true, Bool.or_eq_true, beq_iff_eq, Bool.not_eq_true'] at h
    exact ⟨k, by omega, h.1, h.2⟩
  · rintro ⟨k, hk, h1, h2⟩
    refine ⟨k, List.mem_range.mpr (by omega), ?_⟩
    simp only [Bool.and_eq_true, Bool.or_eq_true, beq_iff_eq, Bool.not_eq_true']
    exact ⟨h1, h2⟩
/-- who is beside i, as bits -/
def bsM (n : Nat) (ss : Nat → Nat) (g i : Nat) : Nat := mk n (nbr n ss g i)
theorem bsM_lt (n : Nat) (ss : Nat → Nat) (g i : Nat) : bsM n ss g i < 2 ^ n := mk_lt _ _
def wantsS (n : Nat) (kk mm : Nat → Nat) (ss : Nat → Nat) (g bb i bar ah : Nat) : Bool :=
  bb.testBit i || kk i == 0 || (if kk i = 1 then !(bsM n ss g i).testBit (mm i) else bar == 0 || (if kk i = 2 then ah.testBit (mm i) else bsM n ss g i &&& ah == 0))
def nowS (n : Nat) (kk mm aa ss : Nat → Nat) (g bb bar ah : Nat) : Nat := mk n fun i => (aa bar).testBit i && wantsS n kk mm ss g bb i bar ah
/-- who plays in a bar, as bits -/
def plS (n : Nat) (kk mm aa ss : Nat → Nat) (g bb : Nat) : Nat → Nat
  | 0 => nowS n kk mm aa ss g bb 0 0
  | b + 1 => nowS n kk mm aa ss g bb (b + 1) (plS n kk mm aa ss g bb b)
theorem nowS_lt (n : Nat) (kk mm aa ss : Nat → Nat) (g bb bar ah : Nat) : nowS n kk mm aa ss g bb bar ah < 2 ^ n := mk_lt _ _
theorem plS_lt (n : Nat) (kk mm aa ss : Nat → Nat) (g bb b : Nat) : plS n kk mm aa ss g bb b < 2 ^ n := by
  cases b <;> exact mk_lt _ _
def ahS (n : Nat) (kk mm aa ss : Nat → Nat) (g bb : Nat) : Nat → Nat
  | 0 => 0
  | b + 1 => plS n kk mm aa ss g bb b
theorem ahS_lt (n : Nat) (kk mm aa ss : Nat → Nat) (g bb b : Nat) : ahS n kk mm aa ss g bb b < 2 ^ n := by
  cases b
  · exact Nat.two_pow_pos n
  · exact plS_lt _ _ _ _ _ _ _ _
theorem plS_eq (n : Nat) (kk mm aa ss : Nat → Nat) (g bb b : Nat) : plS n kk mm aa ss g bb b = nowS n kk mm aa ss g bb b (ahS n kk mm aa ss g bb b) := by
  cases b <;> rfl
/-- notes, whole bars, in the first b bars -/
def ntS (n : Nat) (kk mm aa ss : Nat → Nat) (g bb : Nat) : Nat → Nat
  | 0 => 0
  | b + 1 => ntS n kk mm aa ss g bb b + popc 8 (plS n kk mm aa ss g bb b)
def whS (n : Nat) (kk mm aa ss : Nat → Nat) (g bb : Nat) : Nat → Nat
  | 0 => 0
  | b + 1 => whS n kk mm aa ss g bb b + (if plS n kk mm aa ss g bb b = aa b then 1 else 0)
theorem ntS_le (n : Nat) (kk mm aa ss : Nat → Nat) (g bb b : Nat) : ntS n kk mm aa ss g bb b ≤ 8 * b := by
  induction b with
  | zero => exact Nat.le_refl _
  | succ b ih => unfold ntS; have := popc_le 8 (plS n kk mm aa ss g bb b); omega
theorem whS_le (n : Nat) (kk mm aa ss : Nat → Nat) (g bb b : Nat) : whS n kk mm aa ss g bb b ≤ b := by
  induction b with
  | zero => exact Nat.le_refl _
  | succ b ih => unfold whS; split <;> omega
-- THE CLASS: lookAround
def lfM (ss : Nat → Nat) (g s : Nat) : Nat := if 0 < s ∧ g.testBit (s - 1) = false then 2 ^ ss (s - 1) else 0
def rtM (n : Nat) (ss : Nat → Nat) (g s : Nat) : Nat := if s + 1 < n ∧ g.testBit s = false then 2 ^ ss (s + 1) else 0
theorem p2_lt {k n : Nat} (h : k < n) : 2 ^ k < 2 ^ n := Nat.pow_lt_pow_right (by decide) h
theorem p2_7 {n : Nat} (h : n ≤ 7) : 2 ^ n ≤ 128 := (Nat.pow_le_pow_right (by decide : 2 > 0) h : 2 ^ n ≤ 2 ^ 7)
theorem lr_bs {n : Nat} {ss : Nat → Nat} {g s : Nat} (hp : PermS n ss) (hs : s < n) : lfM ss g s ||| rtM n ss g s = bsM n ss g (ss s) := by
  have h1 : lfM ss g s < 2 ^ n := by
    unfold lfM
    split
    · exact p2_lt (hp.1 _ (by omega))
    · exact Nat.two_pow_pos n
  have h2 : rtM n ss g s < 2 ^ n := by
    unfold rtM
    split
    · rename_i h; exact p2_lt (hp.1 _ h.1)
    · exact Nat.two_pow_pos n
  refine eq_mask (Nat.or_lt_two_pow h1 h2) (bsM_lt _ _ _ _) (fun i hi => ?_)
  have e1 : (lfM ss g s).testBit i = decide (0 < s ∧ g.testBit (s - 1) = false ∧ ss (s - 1) = i) := by
    unfold lfM
    by_cases h : 0 < s ∧ g.testBit (s - 1) = false
    · rw [if_pos h, Nat.testBit_two_pow]
      simp [h]
    · rw [if_neg h]
      simp only [Nat.zero_testBit]
      symm
      rw [decide_eq_false_iff_not]
      exact fun z => h ⟨z.1, z.2.1⟩
  have e2 : (rtM n ss g s).testBit i = decide (s + 1 < n ∧ g.testBit s = false ∧ ss (s + 1) = i) := by
    unfold rtM
    by_cases h : s + 1 < n ∧ g.testBit s = false
    · rw [if_pos h, Nat.testBit_two_pow]
      simp [h]
    · rw [if_neg h]
      simp only [Nat.zero_testBit]
      symm
      rw [decide_eq_false_iff_not]
      exact fun z => h ⟨z.1, z.2.1⟩
  have e3 : (bsM n ss g (ss s)).testBit i = nbr n ss g (ss s) i := by
    unfold bsM
    rw [mk_bit]
    simp [hi]
  rw [Nat.testBit_or, e1, e2, e3, Bool.eq_iff_iff, Bool.or_eq_true, decide_eq_true_iff, decide_eq_true_iff, nbr_iff]
  constructor
  · rintro (⟨a, b, c⟩ | ⟨a, b, c⟩)
    · exact ⟨s - 1, by omega, b, Or.inr ⟨c, by rw [show s - 1 + 1 = s by omega]⟩⟩
    · exact ⟨s, a, b, Or.inl ⟨rfl, c⟩⟩
  · rintro ⟨k, hk, hg, ⟨a, b⟩ | ⟨a, b⟩⟩
    · have := hp.2.1 k s (by omega) hs a
      subst this
      exact Or.inr ⟨hk, hg, b⟩
    · have := hp.2.1 (k + 1) s (by omega) hs b
      subst this
      exact Or.inl ⟨by omega, hg, a⟩
theorem look_step {e p n s : Nat} {g : Nat} {ss : Nat → Nat} {σ : Sg} (he : e = 26 ∨ e = 34 ∨ e = 37) (hp : p = 1 ∨ p = 2 ∨ p = 32) (hn : n ≤ 7) (hg : g < 2147483648) (hs : s < n) (hpm : PermS n ss) (hσ : ∀ i, i < n → σ p i = ss i) (d5 d6 : AV) :
    ∃ d5' d6', Run 9 3 [vR e, vI n, vR p, vI g, vI s, d5, d6] [] σ = Run 9 3 [vR e, vI n, vR p, vI g, vI ((s + 1 : Nat) : Int), d5', d6'] [] (up σ (e + 1) (ss s) ((bsM n ss g (ss s) : Nat) : Int)) := by
  have hss := hpm.1 s hs
  have A : ∃ x : Int, x = (if 0 < s ∧ g.testBit (s - 1) = false then 1 else 0) ∧ Run 9 3 [vR e, vI n, vR p, vI g, vI s, d5, d6] [] σ = Run 9 30 [vR e, vI n, vR p, vI g, vI s, d5, d6] [vI x] σ := by
    refine ⟨_, rfl, ?_⟩
    rw [q9_3 _ _ _ _ _ _ _ _ he hp, wr_id (by omega) (by omega), wr_id (by omega) (by omega), if_pos (by omega)]
    by_cases h0 : 0 < s
    · rw [if_pos (by omega), show ((s : Int) - 1) = ((s - 1 : Nat) : Int) by omega]
      by_cases h1 : g.testBit (s - 1) = false
      · rw [if_pos ((bit_0 _ _ hg (by omega)).mpr h1), if_pos ⟨h0, h1⟩]
      · rw [if_neg (fun z => h1 ((bit_0 _ _ hg (by omega)).mp z)), if_neg (fun z => h1 z.2)]
    · rw [if_neg (by omega), if_neg (fun z => h0 z.1)]
  obtain ⟨x, hx, A⟩ := A
  have B : ∃ y : Int, y = (if s + 1 < n ∧ g.testBit s = false then 1 else 0) ∧ Run 9 30 [vR e, vI n, vR p, vI g, vI s, d5, d6] [vI x] σ = Run 9 54 [vR e, vI n, vR p, vI g, vI s, vI x, d6] [vI y] σ := by
    refine ⟨_, rfl, ?_⟩
    rw [q9_30 _ _ _ _ _ _ _ _ _ he hp, wr_id (by omega) (by omega), wr_id (by omega) (by omega)]
    by_cases h0 : s + 1 < n
    · rw [if_pos (by omega)]
      by_cases h1 : g.testBit s = false
      · rw [if_pos ((bit_0 _ _ hg (by omega)).mpr h1), if_pos ⟨h0, h1⟩]
      · rw [if_neg (fun z => h1 ((bit_0 _ _ hg (by omega)).mp z)), if_neg (fun z => h1 z.2)]
    · rw [if_neg (by omega), if_neg (fun z => h0 z.1)]
  obtain ⟨y, hy, B⟩ := B
  have hl : lfM ss g s < 2147483648 := by
    unfold lfM
    split
    · have := p2_lt (hpm.1 (s - 1) (by omega)); have := p2_7 hn; omega
    · decide
  have hr : rtM n ss g s < 2147483648 := by
    unfold rtM
    split
    · rename_i h; have := p2_lt (hpm.1 (s + 1) h.1); have := p2_7 hn; omega
    · decide
  have C : Run 9 54 [vR e, vI n, vR p, vI g, vI s, vI x, d6] [vI y] σ = Run 9 81 [vR e, vI n, vR p, vI g, vI s, vI x, vI y] [vI ((lfM ss g s : Nat) : Int), vI (ss s), vR (e + 1)] σ := by
    rw [q9_54 _ _ _ _ _ _ _ _ _ he hp, wr_id (x := (s : Int)) (by omega) (by omega), if_pos (by omega), toN, hσ s hs]
    unfold lfM
    by_cases h0 : 0 < s ∧ g.testBit (s - 1) = false
    · rw [if_pos h0] at hx
      rw [if_neg (by rw [hx]; decide), show ((s : Int) - 1) = ((s - 1 : Nat) : Int) by omega, wr_id (by omega) (by omega), if_pos (by omega), toN, hσ _ (by omega), bsl1_n _ (by have := hpm.1 (s - 1) (by omega); omega), if_pos h0]
    · rw [if_neg h0] at hx
      rw [if_pos (by rw [hx]; decide), if_neg h0]
      rfl
  have hx9 : e + 1 = 27 ∨ e + 1 = 35 ∨ e + 1 = 38 := by omega
  refine ⟨vI x, vI y, ?_⟩
  rw [A, B, C, q9_81 _ _ _ _ _ _ _ _ _ _ _ he hp hx9, ← lr_bs hpm hs]
  have w1 : wr (ss s : Int) = ss s := wr_id (by omega) (by omega)
  rw [w1, toN, show ((s : Int) + 1) = ((s + 1 : Nat) : Int) by omega]
  unfold rtM
  by_cases h0 : s + 1 < n ∧ g.testBit s = false
  · rw [if_pos h0] at hy
    rw [if_neg (by rw [hy]; decide), wr_id (by omega) (by omega), if_pos (by omega), if_pos (by omega), toN, hσ _ h0.1, bsl1_n _ (by have := hpm.1 (s + 1) h0.1; omega), if_pos h0, bor_n _ _ hl (by have := p2_lt (hpm.1 (s + 1) h0.1); have := p2_7 hn; omega)]
  · rw [if_neg h0] at hy
    rw [if_pos (by rw [hy]; decide), if_pos (by omega), if_neg h0]
    have e0 : bor ((lfM ss g s : Nat) : Int) 0 = ((lfM ss g s ||| 0 : Nat) : Int) := bor_n _ 0 hl (by decide)
    rw [e0]
theorem look_loop {e p n g : Nat} {ss : Nat → Nat} (he : e = 26 ∨ e = 34 ∨ e = 37) (hp : p = 1 ∨ p = 2 ∨ p = 32) (hn : n ≤ 7) (hg : g < 2147483648) (hpm : PermS n ss) : ∀ (d s : Nat) (σ : Sg) (d5 d6 : AV), s + d = n → (∀ i, i < n → σ p i = ss i) →
    ∃ σ', Run 9 3 [vR e, vI n, vR p, vI g, vI s, d5, d6] [] σ = some (vI 0, σ') ∧ (∀ q, q ≠ e + 1 → σ' q = σ q) ∧ (∀ t, s ≤ t → t < n → σ' (e + 1) (ss t) = ((bsM n ss g (ss t) : Nat) : Int)) ∧ (∀ j, (∀ t, s ≤ t → t < n → ss t ≠ j) → σ' (e + 1) j = σ (e + 1) j)
  | 0, s, σ, d5, d6, h, hσ => by
    refine ⟨σ, ?_, fun _ _ => rfl, fun t h1 h2 => by omega, fun _ _ => rfl⟩
    rw [q9_3 _ _ _ _ _ _ _ _ he hp, wr_id (by omega) (by omega), wr_id (by omega) (by omega), if_neg (by omega)]
  | d + 1, s, σ, d5, d6, h, hσ => by
    obtain ⟨d5', d6', e1⟩ := look_step he hp hn hg (by omega : s < n) hpm hσ d5 d6
    obtain ⟨σ', h1, h2, h3, h4⟩ := look_loop he hp hn hg hpm d (s + 1) (up σ (e + 1) (ss s) ((bsM n ss g (ss s) : Nat) : Int)) d5' d6' (by omega) (fun i hi => by rw [up_p _ _ _ (by omega)]; exact hσ i hi)
    refine ⟨σ', e1.trans h1, fun q hq => (h2 q hq).trans (up_ne hq), fun t ht1 ht2 => ?_, fun j hj => ?_⟩
    · rcases Nat.eq_or_lt_of_le ht1 with q | q
      · subst q
        rw [h4 (ss s) (fun t h5 h6 z => by have := hpm.2.1 t s h6 (by omega) z; omega), up_e]
      · exact h3 t q ht2
    · rw [h4 j (fun t h5 h6 => hj t (by omega) h6), up_j, if_neg (fun z => hj s (Nat.le_refl _) (by omega) z.symm)]
theorem look_all {e p n g : Nat} {ss : Nat → Nat} {σ : Sg} (he : e = 26 ∨ e = 34 ∨ e = 37) (hp : p = 1 ∨ p = 2 ∨ p = 32) (hn : n ≤ 7) (hg : g < 2147483648) (hpm : PermS n ss) (hσ : ∀ i, i < n → σ p i = ss i) :
    ∃ σ', Cal 9 [vR e, vI n, vR p, vI g] σ = some (vI 0, σ') ∧ (∀ q, q ≠ e + 1 → σ' q = σ q) ∧ (∀ i, i < n → σ' (e + 1) i = ((bsM n ss g i : Nat) : Int)) := by
  obtain ⟨σ', h1, h2, h3, -⟩ := look_loop he hp hn hg hpm n 0 σ vJ vJ (by omega) hσ
  refine ⟨σ', ?_, h2, fun i hi => ?_⟩
  · show Run 9 0 _ _ _ = _
    exact (q9_0 _ _ _ _ _ he hp).trans h1
  · obtain ⟨t, ht, rfl⟩ := hpm.2.2 i hi
    exact h3 t (Nat.zero_le _) ht
/-- the class's band: n instruments of kinds kk that mind mm, B bars asking aa -/
def BandC (σ : Sg) (n B : Nat) (kk mm aa : Nat → Nat) : Prop :=
  σ 20 3 = n ∧ n ≤ 7 ∧ σ 20 5 = B ∧ B ≤ 8 ∧ (∀ i, i < n → σ 21 i = kk i ∧ kk i < 4) ∧ (∀ i, i < n → σ 22 i = mm i ∧ mm i < n) ∧ (∀ b, b < B → σ 24 b = aa b ∧ aa b < 2 ^ n)
theorem BandC.kept {σ σ' : Sg} {n B : Nat} {kk mm aa : Nat → Nat} (h : BandC σ n B kk mm aa) (h0 : σ' 20 = σ 20) (h1 : σ' 21 = σ 21) (h2 : σ' 22 = σ 22) (h4 : σ' 24 = σ 24) : BandC σ' n B kk mm aa := by
  unfold BandC
  rw [h0, h1, h2, h4]
  exact h
/-- who comes in anyway, of the first k -/
def fmS (n : Nat) (kk mm ss : Nat → Nat) (g bb k : Nat) : Nat := bb ||| mk k (fun i => kk i == 0 || (kk i == 1 && !(bsM n ss g i).testBit (mm i)))
theorem or_mk (b k : Nat) (f : Nat → Bool) : b ||| mk (k + 1) f = (b ||| mk k f) ||| (if f k = true then 2 ^ k else 0) := by
  show b ||| (mk k f ||| _) = _
  rw [Nat.or_assoc]
theorem or_lt7 {n a b : Nat} (hn : n ≤ 7) (ha : a < 2 ^ n) (hb : b < 2 ^ n) : a ||| b < 2147483648 := by
  have := Nat.or_lt_two_pow ha hb
  have := p2_7 hn
  omega
theorem any_loop {e n B g bb : Nat} {kk mm aa ss : Nat → Nat} {σ : Sg} (he : e = 26 ∨ e = 34 ∨ e = 37) (hB : BandC σ n B kk mm aa) (hbb : bb < 2 ^ n) (hbs : ∀ i, i < n → σ (e + 1) i = ((bsM n ss g i : Nat) : Int)) : ∀ (d k : Nat) (x5 : AV), k + d = n →
    Run 10 5 [vR e, vR 20, vI bb, vI ((fmS n kk mm ss g bb k : Nat) : Int), vI k, x5] [] σ = some (vI ((fmS n kk mm ss g bb n : Nat) : Int), σ)
  | 0, k, x5, h => by
    have hk : k = n := by omega
    subst hk
    rw [q10_5 _ _ _ _ _ _ he, hB.1, wr_id (by have := hB.2.1; omega) (by have := hB.2.1; omega), if_neg (by omega)]
  | d + 1, k, x5, h => by
    obtain ⟨h1, h2, h3, h4, h5, h6, h7⟩ := hB
    have hk : k < n := by omega
    have ih := any_loop (bb := bb) (ss := ss) (g := g) he ⟨h1, h2, h3, h4, h5, h6, h7⟩ hbb hbs d (k + 1)
    have hbk := bsM_lt n ss g k
    have hp7 := p2_7 h2
    have fl : fmS n kk mm ss g bb k < 2 ^ n := Nat.or_lt_two_pow hbb (Nat.lt_of_lt_of_le (mk_lt _ _) (Nat.pow_le_pow_right (by decide) (by omega)))
    have add : ∀ x5' : AV, (kk k == 0 || (kk k == 1 && !(bsM n ss g k).testBit (mm k))) = true → Run 10 5 [vR e, vR 20, vI bb, vI (bor ((fmS n kk mm ss g bb k : Nat) : Int) (bsl 1 (k : Int))), vI ((k : Int) + 1), x5'] [] σ = some (vI ((fmS n kk mm ss g bb n : Nat) : Int), σ) := fun x5' hc => by
      have e1 : bor ((fmS n kk mm ss g bb k : Nat) : Int) (bsl 1 (k : Int)) = ((fmS n kk mm ss g bb (k + 1) : Nat) : Int) := by
        rw [bsl1_n k (by omega), bor_n _ _ (by omega) (by have := p2_lt hk; omega)]
        unfold fmS
        rw [or_mk, if_pos hc]
      rw [e1]
      exact ih x5' (by omega)
    have skip : ∀ x5' : AV, ¬ (kk k == 0 || (kk k == 1 && !(bsM n ss g k).testBit (mm k))) = true → Run 10 5 [vR e, vR 20, vI bb, vI ((fmS n kk mm ss g bb k : Nat) : Int), vI ((k : Int) + 1), x5'] [] σ = some (vI ((fmS n kk mm ss g bb n : Nat) : Int), σ) := fun x5' hc => by
      have e1 : fmS n kk mm ss g bb k = fmS n kk mm ss g bb (k + 1) := by
        unfold fmS
        rw [or_mk, if_neg hc, Nat.or_zero]
      rw [e1]
      exact ih x5' (by omega)
    have wk : wr (k : Int) = k := wr_id (by omega) (by omega)
    rw [q10_5 _ _ _ _ _ _ he, h1, wk, wr_id (x := (n : Int)) (by omega) (by omega), if_pos (by omega), if_pos (by omega), toN, (h5 k hk).1, wr_id (x := (kk k : Int)) (by have := (h5 k hk).2; omega) (by have := (h5 k hk).2; omega), (h6 k hk).1, hbs k hk, wr_1]
    by_cases c0 : kk k = 0
    · rw [if_pos (by omega), q10_54 _ _ _ _ _ _ he]
      exact add _ (by simp [c0])
    · rw [if_neg (by omega)]
      by_cases c1 : kk k = 1
      · rw [if_pos (by omega), if_pos (by omega), if_pos (by omega)]
        by_cases c2 : (bsM n ss g k).testBit (mm k) = false
        · rw [if_pos ((bit_0 _ _ (by omega) (by have := (h6 k hk).2; omega)).mpr c2), q10_54 _ _ _ _ _ _ he]
          exact add _ (by simp [c1, c2])
        · rw [if_neg (fun z => c2 ((bit_0 _ _ (by omega) (by have := (h6 k hk).2; omega)).mp z))]
          exact skip _ (by simp [c1, c2])
      · rw [if_neg (by omega)]
        exact skip _ (by simp [c0, c1])
theorem any_all {e n B g bb : Nat} {kk mm aa ss : Nat → Nat} {σ : Sg} (he : e = 26 ∨ e = 34 ∨ e = 37) (hB : BandC σ n B kk mm aa) (hbb : bb < 2 ^ n) (hbs : ∀ i, i < n → σ (e + 1) i = ((bsM n ss g i : Nat) : Int)) :
    Cal 10 [vR e, vR 20, vI bb] σ = some (vI ((fmS n kk mm ss g bb n : Nat) : Int), σ) := by
  show Run 10 0 _ _ _ = _
  have e0 : ((bb : Nat) : Int) = ((fmS n kk mm ss g bb 0 : Nat) : Int) := by
    unfold fmS mk
    rw [Nat.or_zero]
  have h := any_loop he hB hbb hbs n 0 vJ (by omega)
  rw [← e0] at h
  exact (q10_0 _ _ _ he).trans h
-- the JDK's bitCount
def bcE (x0 : Int) : Int := (ban (((ban (((ban (x0 - (ban (bus x0 1) 1431655765)) 858993459) + (ban (bus (x0 - (ban (bus x0 1) 1431655765)) 2) 858993459)) + (bus ((ban (x0 - (ban (bus x0 1) 1431655765)) 858993459) + (ban (bus (x0 - (ban (bus x0 1) 1431655765)) 2) 858993459)) 4)) 252645135) + (bus (ban (((ban (x0 - (ban (bus x0 1) 1431655765)) 858993459) + (ban (bus (x0 - (ban (bus x0 1) 1431655765)) 2) 858993459)) + (bus ((ban (x0 - (ban (bus x0 1) 1431655765)) 858993459) + (ban (bus (x0 - (ban (bus x0 1) 1431655765)) 2) 858993459)) 4)) 252645135) 8)) + (bus ((ban (((ban (x0 - (ban (bus x0 1) 1431655765)) 858993459) + (ban (bus (x0 - (ban (bus x0 1) 1431655765)) 2) 858993459)) + (bus ((ban (x0 - (ban (bus x0 1) 1431655765)) 858993459) + (ban (bus (x0 - (ban (bus x0 1) 1431655765)) 2) 858993459)) 4)) 252645135) + (bus (ban (((ban (x0 - (ban (bus x0 1) 1431655765)) 858993459) + (ban (bus (x0 - (ban (bus x0 1) 1431655765)) 2) 858993459)) + (bus ((ban (x0 - (ban (bus x0 1) 1431655765)) 858993459) + (ban (bus (x0 - (ban (bus x0 1) 1431655765)) 2) 858993459)) 4)) 252645135) 8)) 16)) 63)
theorem bc_tab : ∀ a : Nat, a < 128 → bcE (a : Int) = ((popc 8 a : Nat) : Int) := by decide +kernel
theorem bc_all (a : Nat) (h : a < 128) (σ : Sg) : Cal 12 [vI a] σ = some (vI ((popc 8 a : Nat) : Int), σ) := by
  show Run 12 0 _ _ _ = _
  rw [show Run 12 0 (ent (nlm 12) [vI (a : Int)]) [] σ = some (vI (bcE a), σ) from q12_0 _ _, bc_tab a h]
/-- the LOYAL and the SHY that come, of the first k -/
def caF (n : Nat) (kk mm ss : Nat → Nat) (g bar ah i : Nat) : Bool := decide (2 ≤ kk i) && (bar == 0 || (if kk i = 2 then ah.testBit (mm i) else bsM n ss g i &&& ah == 0))
def caS (n : Nat) (kk mm ss : Nat → Nat) (g bar ah k : Nat) : Nat := mk k (caF n kk mm ss g bar ah)
theorem aft_loop {e n B g bar ah : Nat} {kk mm aa ss : Nat → Nat} {σ : Sg} (he : e = 26 ∨ e = 34 ∨ e = 37) (hB : BandC σ n B kk mm aa) (hah : ah < 2 ^ n) (hbar : bar < 8) (hbs : ∀ i, i < n → σ (e + 1) i = ((bsM n ss g i : Nat) : Int)) : ∀ (d k : Nat) (x6 x7 : AV), k + d = n →
    Run 11 6 [vR e, vR 20, vI bar, vI ah, vI ((caS n kk mm ss g bar ah k : Nat) : Int), vI k, x6, x7] [] σ = some (vI ((caS n kk mm ss g bar ah n : Nat) : Int), σ)
  | 0, k, x6, x7, h => by
    have hk : k = n := by omega
    subst hk
    rw [q11_6 _ _ _ _ _ _ _ _ he, hB.1, wr_id (by have := hB.2.1; omega) (by have := hB.2.1; omega), if_neg (by omega)]
  | d + 1, k, x6, x7, h => by
    have hB2 := hB
    obtain ⟨h1, h2, h3, h4, h5, h6, h7⟩ := hB
    have hk : k < n := by omega
    have ih := aft_loop (ss := ss) (g := g) he hB2 hah hbar hbs d (k + 1)
    have hbk := bsM_lt n ss g k
    have hp7 := p2_7 h2
    have fl : caS n kk mm ss g bar ah k < 2 ^ n := Nat.lt_of_lt_of_le (mk_lt _ _) (Nat.pow_le_pow_right (by decide) (by omega))
    have add : ∀ x6' x7' : AV, caF n kk mm ss g bar ah k = true → Run 11 6 [vR e, vR 20, vI bar, vI ah, vI (bor ((caS n kk mm ss g bar ah k : Nat) : Int) (bsl 1 (k : Int))), vI ((k : Int) + 1), x6', x7'] [] σ = some (vI ((caS n kk mm ss g bar ah n : Nat) : Int), σ) := fun x6' x7' hc => by
      have e1 : bor ((caS n kk mm ss g bar ah k : Nat) : Int) (bsl 1 (k : Int)) = ((caS n kk mm ss g bar ah (k + 1) : Nat) : Int) := by
        rw [bsl1_n k (by omega), bor_n _ _ (by omega) (by have := p2_lt hk; omega)]
        show _ = ((mk k _ ||| _ : Nat) : Int)
        rw [if_pos hc]
        rfl
      rw [e1]
      exact ih x6' x7' (by omega)
    have skip : ∀ x6' x7' : AV, ¬ caF n kk mm ss g bar ah k = true → Run 11 6 [vR e, vR 20, vI bar, vI ah, vI ((caS n kk mm ss g bar ah k : Nat) : Int), vI ((k : Int) + 1), x6', x7'] [] σ = some (vI ((caS n kk mm ss g bar ah n : Nat) : Int), σ) := fun x6' x7' hc => by
      have e1 : caS n kk mm ss g bar ah k = caS n kk mm ss g bar ah (k + 1) := by
        show _ = (mk k _ ||| _ : Nat)
        rw [if_neg hc, Nat.or_zero]
        rfl
      rw [e1]
      exact ih x6' x7' (by omega)
    have wk : wr (k : Int) = k := wr_id (by omega) (by omega)
    have wb : wr (bar : Int) = bar := wr_id (by omega) (by omega)
    have hkk := (h5 k hk).2
    rw [q11_6 _ _ _ _ _ _ _ _ he, h1, wk, wr_id (x := (n : Int)) (by omega) (by omega), if_pos (by omega), if_pos (by omega), toN, (h5 k hk).1, wr_id (x := (kk k : Int)) (by omega) (by omega), (h6 k hk).1, hbs k hk, wr_1, wr_id (x := 2) (by omega) (by omega)]
    -- behind the choice, with x on the stack
    have fin : ∀ (c : Bool) (x6' : Int) (x7' : AV), caF n kk mm ss g bar ah k = (bar == 0 || c) → Run 11 79 [vR e, vR 20, vI bar, vI ah, vI ((caS n kk mm ss g bar ah k : Nat) : Int), vI k, vI x6', x7'] [vI (if c = true then 1 else 0)] σ = some (vI ((caS n kk mm ss g bar ah n : Nat) : Int), σ) := fun c x6' x7' hc => by
      rw [q11_79 _ _ _ _ _ _ _ _ _ he, wb]
      cases c with
      | true =>
        rw [if_neg (by decide), q11_90 _ _ _ _ _ _ _ _ he]
        exact add _ _ (by rw [hc]; simp)
      | false =>
        rw [if_pos (by decide)]
        by_cases hb : bar = 0
        · rw [if_pos (by omega), q11_90 _ _ _ _ _ _ _ _ he]
          exact add _ _ (by rw [hc]; simp [hb])
        · rw [if_neg (by omega)]
          exact skip _ _ (by rw [hc]; simp [hb])
    by_cases c0 : 2 ≤ kk k
    · rw [if_pos (by omega)]
      by_cases c1 : kk k = 2
      · rw [if_pos (by omega), if_pos (by omega)]
        have hc : ∀ c, c = ah.testBit (mm k) → caF n kk mm ss g bar ah k = (bar == 0 || c) := fun c hc => by unfold caF; rw [hc, c1]; simp
        by_cases c2 : ah.testBit (mm k) = true
        · have := (bit_1 ah (mm k) (by omega) (by have := (h6 k hk).2; omega)).mpr c2
          rw [wr_1] at this
          rw [if_pos this]
          exact fin true _ _ (hc _ c2.symm)
        · have : ¬ wr (ban (bsr (ah : Int) (mm k)) 1) = 1 := fun z => c2 ((bit_1 ah (mm k) (by omega) (by have := (h6 k hk).2; omega)).mp (by rw [wr_1]; exact z))
          rw [if_neg this]
          exact fin false _ _ (hc _ ((Bool.not_eq_true _).mp c2).symm)
      · rw [if_neg (by omega), if_pos (by omega)]
        have hc : ∀ c, c = (bsM n ss g k &&& ah == 0) → caF n kk mm ss g bar ah k = (bar == 0 || c) := fun c hc => by unfold caF; rw [hc, if_neg c1]; simp [c0]
        by_cases c2 : bsM n ss g k &&& ah = 0
        · have := (ban_0 ah (bsM n ss g k) (by omega)).mpr (by rw [Nat.and_comm]; exact c2)
          rw [if_pos this]
          exact fin true _ _ (hc _ (by simp [c2]))
        · have : ¬ wr (ban (ah : Int) ((bsM n ss g k : Nat) : Int)) = 0 := fun z => c2 (by rw [Nat.and_comm]; exact (ban_0 ah (bsM n ss g k) (by omega)).mp z)
          rw [if_neg this]
          exact fin false _ _ (hc _ (by simp [c2]))
    · rw [if_neg (by omega)]
      exact skip _ _ (by unfold caF; simp [c0])
theorem aft_all {e n B g bar ah : Nat} {kk mm aa ss : Nat → Nat} {σ : Sg} (he : e = 26 ∨ e = 34 ∨ e = 37) (hB : BandC σ n B kk mm aa) (hah : ah < 2 ^ n) (hbar : bar < 8) (hbs : ∀ i, i < n → σ (e + 1) i = ((bsM n ss g i : Nat) : Int)) :
    Cal 11 [vR e, vR 20, vI bar, vI ah] σ = some (vI ((caS n kk mm ss g bar ah n : Nat) : Int), σ) := by
  show Run 11 0 _ _ _ = _
  exact (q11_0 _ _ _ _ he).trans (aft_loop he hB hah hbar hbs n 0 vJ vJ (by omega))
theorem now_eq {n g bb bar ah : Nat} {kk mm aa ss : Nat → Nat} (hk : ∀ i, i < n → kk i < 4) (ha : aa bar < 2 ^ n) : aa bar &&& (fmS n kk mm ss g bb n ||| caS n kk mm ss g bar ah n) = nowS n kk mm aa ss g bb bar ah := by
  refine eq_mask (Nat.lt_of_le_of_lt Nat.and_le_left ha) (nowS_lt _ _ _ _ _ _ _ _ _) (fun i hi => ?_)
  unfold nowS fmS caS caF wantsS
  rw [Nat.testBit_and, Nat.testBit_or, Nat.testBit_or, mk_bit, mk_bit, mk_bit]
  have h4 := hk i hi
  simp only [hi, decide_true, Bool.true_and]
  congr 1
  rcases (show kk i = 0 ∨ kk i = 1 ∨ kk i = 2 ∨ kk i = 3 by omega) with q | q | q | q
  · simp [q]
  · simp [q]
  · simp [q]
  · simp [q]
/-- the Evening e holds what is played in the first b bars -/
def EvB (σ : Sg) (e n : Nat) (kk mm aa ss : Nat → Nat) (g bb b : Nat) : Prop :=
  σ e 2 = ((ntS n kk mm aa ss g bb b : Nat) : Int) ∧ σ e 3 = ((whS n kk mm aa ss g bb b : Nat) : Int) ∧ (∀ j, j < b → σ (e + 2) j = ((plS n kk mm aa ss g bb j : Nat) : Int)) ∧ (∀ i, i < n → σ (e + 1) i = ((bsM n ss g i : Nat) : Int))
theorem play_step {e p n B g bb may b : Nat} {kk mm aa ss : Nat → Nat} {σ : Sg} (he : e = 26 ∨ e = 34 ∨ e = 37) (hp : p = 1 ∨ p = 2 ∨ p = 32) (hB : BandC σ n B kk mm aa) (hbb : bb < 2 ^ n) (hmay : may < 2147483648) (hb : b < B) (hE : EvB σ e n kk mm (fun j => aa j &&& may) ss g bb b) (x9 : AV) :
    ∃ (σ' : Sg) (x9' : AV), Run 13 35 [vR e, vR 20, vR p, vI g, vI bb, vI may, vI ((fmS n kk mm ss g bb n : Nat) : Int), vI ((ahS n kk mm (fun j => aa j &&& may) ss g bb b : Nat) : Int), vI b, x9] [] σ = Run 13 35 [vR e, vR 20, vR p, vI g, vI bb, vI may, vI ((fmS n kk mm ss g bb n : Nat) : Int), vI ((ahS n kk mm (fun j => aa j &&& may) ss g bb (b + 1) : Nat) : Int), vI ((b + 1 : Nat) : Int), x9'] [] σ' ∧ (∀ q, q ≠ e → q ≠ e + 2 → σ' q = σ q) ∧ EvB σ' e n kk mm (fun j => aa j &&& may) ss g bb (b + 1) := by
  have hB2 := hB
  obtain ⟨h1, h2, h3, h4, h5, h6, h7⟩ := hB
  obtain ⟨g1, g2, g3, g4⟩ := hE
  have hp7 := p2_7 h2
  have hah := ahS_lt n kk mm (fun j => aa j &&& may) ss g bb b
  have wb : wr (b : Int) = b := wr_id (by omega) (by omega)
  have haa := (h7 b hb).2
  have ham : aa b &&& may < 2 ^ n := Nat.lt_of_le_of_lt Nat.and_le_left haa
  have e1 : ban (aa b : Int) (may : Int) = ((aa b &&& may : Nat) : Int) := ban_n _ _ (by omega)
  have ffm : fmS n kk mm ss g bb n < 2 ^ n := Nat.or_lt_two_pow hbb (mk_lt _ _)
  have fca : caS n kk mm ss g b (ahS n kk mm (fun j => aa j &&& may) ss g bb b) n < 2 ^ n := mk_lt _ _
  have e2 : bor ((fmS n kk mm ss g bb n : Nat) : Int) ((caS n kk mm ss g b (ahS n kk mm (fun j => aa j &&& may) ss g bb b) n : Nat) : Int) = ((fmS n kk mm ss g bb n ||| caS n kk mm ss g b (ahS n kk mm (fun j => aa j &&& may) ss g bb b) n : Nat) : Int) := bor_n _ _ (by omega) (by omega)
  have e3 : ban ((aa b &&& may : Nat) : Int) ((fmS n kk mm ss g bb n ||| caS n kk mm ss g b (ahS n kk mm (fun j => aa j &&& may) ss g bb b) n : Nat) : Int) = ((plS n kk mm (fun j => aa j &&& may) ss g bb b : Nat) : Int) := by
    rw [ban_n _ _ (by omega), plS_eq]
    exact congrArg Nat.cast (now_eq (aa := fun j => aa j &&& may) (fun i hi => (h5 i hi).2) ham)
  have fpl := plS_lt n kk mm (fun j => aa j &&& may) ss g bb b
  rw [q13_35 _ _ _ _ _ _ _ _ _ _ he hp, h3, wb, wr_id (x := (B : Int)) (by omega) (by omega), if_pos (by omega), if_pos (by omega), toN, (h7 b hb).1, aft_all he hB2 hah (by omega) g4, kcI_s, e1, e2, e3, if_pos (by omega), bc_all _ (by omega), kcI_s, wr_id (x := ((plS n kk mm (fun j => aa j &&& may) ss g bb b : Nat) : Int)) (by omega) (by omega), wr_id (x := ((aa b &&& may : Nat) : Int)) (by omega) (by omega)]
  have hnt := ntS_le n kk mm (fun j => aa j &&& may) ss g bb b
  by_cases c0 : plS n kk mm (fun j => aa j &&& may) ss g bb b = aa b &&& may
  · rw [if_pos (by omega)]
    refine ⟨_, _, rfl, fun q q1 q2 => ?_, ?_, ?_, fun j hj => ?_, fun i hi => ?_⟩
    · rw [up_ne q1, up_ne q1, up_ne q2]
    · simp only [up_at]
      simp [g1, ntS]
    · simp only [up_at]
      simp [g2, whS, c0]
    · rw [up_p _ _ _ (by omega), up_p _ _ _ (by omega), up_j]
      by_cases c1 : j = b
      · subst c1; simp
      · rw [if_neg c1]; exact g3 j (by omega)
    · rw [up_p _ _ _ (by omega), up_p _ _ _ (by omega), up_p _ _ _ (by omega)]
      exact g4 i hi
  · rw [if_neg (by omega)]
    refine ⟨_, _, rfl, fun q q1 q2 => ?_, ?_, ?_, fun j hj => ?_, fun i hi => ?_⟩
    · rw [up_ne q1, up_ne q1, up_ne q2]
    · simp only [up_at]
      simp [g1, ntS]
    · simp only [up_at]
      simp [g2, whS, c0]
    · rw [up_p _ _ _ (by omega), up_p _ _ _ (by omega), up_j]
      by_cases c1 : j = b
      · subst c1; simp
      · rw [if_neg c1]; exact g3 j (by omega)
    · rw [up_p _ _ _ (by omega), up_p _ _ _ (by omega), up_p _ _ _ (by omega)]
      exact g4 i hi
theorem play_loop {e p n B g bb may : Nat} {kk mm aa ss : Nat → Nat} (he : e = 26 ∨ e = 34 ∨ e = 37) (hp : p = 1 ∨ p = 2 ∨ p = 32) (hbb : bb < 2 ^ n) (hmay : may < 2147483648) : ∀ (d b : Nat) (σ : Sg) (x9 : AV), b + d = B → BandC σ n B kk mm aa → EvB σ e n kk mm (fun j => aa j &&& may) ss g bb b →
    ∃ σ', Run 13 35 [vR e, vR 20, vR p, vI g, vI bb, vI may, vI ((fmS n kk mm ss g bb n : Nat) : Int), vI ((ahS n kk mm (fun j => aa j &&& may) ss g bb b : Nat) : Int), vI b, x9] [] σ = some (vI 0, σ') ∧ (∀ q, q ≠ e → q ≠ e + 2 → σ' q = σ q) ∧ EvB σ' e n kk mm (fun j => aa j &&& may) ss g bb B
  | 0, b, σ, x9, h, hB, hE => by
    have hb : b = B := by omega
    subst hb
    refine ⟨σ, ?_, fun _ _ _ => rfl, hE⟩
    rw [q13_35 _ _ _ _ _ _ _ _ _ _ he hp, hB.2.2.1, wr_id (by have := hB.2.2.2.1; omega) (by have := hB.2.2.2.1; omega), if_neg (by omega)]
  | d + 1, b, σ, x9, h, hB, hE => by
    obtain ⟨σ1, x9', e1, f1, hE1⟩ := play_step he hp hB hbb hmay (by omega : b < B) hE x9
    obtain ⟨σ', e2, f2, hE2⟩ := play_loop he hp hbb hmay d (b + 1) σ1 x9' (by omega) (hB.kept (f1 _ (by omega) (by omega)) (f1 _ (by omega) (by omega)) (f1 _ (by omega) (by omega)) (f1 _ (by omega) (by omega))) hE1
    exact ⟨σ', e1.trans e2, fun q q1 q2 => (f2 q q1 q2).trans (f1 q q1 q2), hE2⟩
/-- AN EVENING of the class -/
theorem play_all {e p n B g bb may : Nat} {kk mm aa ss : Nat → Nat} {σ : Sg} (he : e = 26 ∨ e = 34 ∨ e = 37) (hp : p = 1 ∨ p = 2 ∨ p = 32) (hB : BandC σ n B kk mm aa) (hg : g < 2147483648) (hbb : bb < 2 ^ n) (hmay : may < 2147483648) (hpm : PermS n ss) (hσ : ∀ i, i < n → σ p i = ss i) :
    ∃ σ', Cal 13 [vR e, vR 20, vR p, vI g, vI bb, vI may] σ = some (vI 0, σ') ∧ (∀ q, q ≠ e → q ≠ e + 1 → q ≠ e + 2 → σ' q = σ q) ∧ EvB σ' e n kk mm (fun j => aa j &&& may) ss g bb B := by
  obtain ⟨s1, a1, a2, a3⟩ := look_all he hp hB.2.1 hg hpm hσ
  have hB1 : BandC s1 n B kk mm aa := hB.kept (a2 _ (by omega)) (a2 _ (by omega)) (a2 _ (by omega)) (a2 _ (by omega))
  have b1 := any_all he hB1 hbb a3
  obtain ⟨σ', c1, c2, c3⟩ := play_loop (p := p) (ss := ss) (g := g) he hp hbb hmay B 0 (up (up s1 e 2 0) e 3 0) vJ (by omega) (hB1.kept (by rw [up_ne (by omega), up_ne (by omega)]) (by rw [up_ne (by omega), up_ne (by omega)]) (by rw [up_ne (by omega), up_ne (by omega)]) (by rw [up_ne (by omega), up_ne (by omega)])) ⟨by simp [up_at, ntS], by simp [up_at, whS], fun j hj => by omega, fun i hi => by rw [up_p _ _ _ (by omega), up_p _ _ _ (by omega)]; exact a3 i hi⟩
  refine ⟨σ', ?_, fun q q1 q2 q3 => ?_, c3⟩
  · show Run 13 0 _ _ _ = _
    have e0 := q13_0 e p g bb may σ he hp
    rw [hB.1, a1, kcV_s, b1, kcI_s] at e0
    exact e0.trans c1
  · rw [c2 q q1 q3, up_ne q1, up_ne q1, a2 q q2]
-- what an evening depends on
theorem bsM_congr {n : Nat} {ss ss' : Nat → Nat} (g i : Nat) (h : ∀ s, s < n → ss s = ss' s) : bsM n ss g i = bsM n ss' g i := by
  unfold bsM
  refine mk_ext (fun j hj => ?_)
  rw [Bool.eq_iff_iff, nbr_iff, nbr_iff]
  constructor
  · rintro ⟨k, h1, h2, h3⟩
    exact ⟨k, h1, h2, by rw [← h k (by omega), ← h (k + 1) h1]; exact h3⟩
  · rintro ⟨k, h1, h2, h3⟩
    exact ⟨k, h1, h2, by rw [h k (by omega), h (k + 1) h1]; exact h3⟩
theorem nowS_congr {n : Nat} {kk mm aa ss kk' mm' aa' ss' : Nat → Nat} {g bb bar ah : Nat} (hk : ∀ i, i < n → kk i = kk' i) (hm : ∀ i, i < n → mm i = mm' i) (ha : aa bar = aa' bar) (hs : ∀ s, s < n → ss s = ss' s) : nowS n kk mm aa ss g bb bar ah = nowS n kk' mm' aa' ss' g bb bar ah := by
  unfold nowS
  refine mk_ext (fun i hi => ?_)
  unfold wantsS
  rw [ha, hk i hi, hm i hi, bsM_congr g i hs]
theorem plS_congr {n : Nat} {kk mm aa ss kk' mm' aa' ss' : Nat → Nat} {g bb B : Nat} (hk : ∀ i, i < n → kk i = kk' i) (hm : ∀ i, i < n → mm i = mm' i) (ha : ∀ j, j < B → aa j = aa' j) (hs : ∀ s, s < n → ss s = ss' s) : ∀ b, b < B → plS n kk mm aa ss g bb b = plS n kk' mm' aa' ss' g bb b
  | 0, h => nowS_congr hk hm (ha 0 h) hs
  | b + 1, h => by
    show nowS _ _ _ _ _ _ _ _ (plS _ _ _ _ _ _ _ b) = nowS _ _ _ _ _ _ _ _ (plS _ _ _ _ _ _ _ b)
    rw [plS_congr hk hm ha hs b (by omega)]
    exact nowS_congr hk hm (ha _ h) hs
theorem ntS_congr {n : Nat} {kk mm aa ss kk' mm' aa' ss' : Nat → Nat} {g bb B : Nat} (hk : ∀ i, i < n → kk i = kk' i) (hm : ∀ i, i < n → mm i = mm' i) (ha : ∀ j, j < B → aa j = aa' j) (hs : ∀ s, s < n → ss s = ss' s) : ∀ b, b ≤ B → ntS n kk mm aa ss g bb b = ntS n kk' mm' aa' ss' g bb b
  | 0, _ => rfl
  | b + 1, h => by
    unfold ntS
    rw [ntS_congr hk hm ha hs b (by omega), plS_congr hk hm ha hs b h]
theorem whS_congr {n : Nat} {kk mm aa ss kk' mm' aa' ss' : Nat → Nat} {g bb B : Nat} (hk : ∀ i, i < n → kk i = kk' i) (hm : ∀ i, i < n → mm i = mm' i) (ha : ∀ j, j < B → aa j = aa' j) (hs : ∀ s, s < n → ss s = ss' s) : ∀ b, b ≤ B → whS n kk mm aa ss g bb b = whS n kk' mm' aa' ss' g bb b
  | 0, _ => rfl
  | b + 1, h => by
    unfold whS
    rw [whS_congr hk hm ha hs b (by omega), plS_congr hk hm ha hs b h, ha b h]
theorem and_127 {n a : Nat} (hn : n ≤ 7) (h : a < 2 ^ n) : a &&& 127 = a := by
  have := p2_7 hn
  rw [show (127 : Nat) = 2 ^ 7 - 1 from rfl, Nat.and_two_pow_sub_one_eq_mod, Nat.mod_eq_of_lt (by omega)]
