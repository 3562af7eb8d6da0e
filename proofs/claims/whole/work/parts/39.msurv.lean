/-! WHAT THE SURVEY ANSWERS, in the reference -/
theorem m_goB {d : Dt} {σ : Sg} {k : Nat} (hO : OkD d) (hM : InvM σ d) (hG : GoIn σ (dn d) (d 1) (pmF (dn d) k) (dg d) (db d) 0) : ∃ σ', Cal 95 [vR 40] σ = some (vI ((whK d k : Nat) : Int), σ') ∧ σ' 40 19 = ((ntK d k : Nat) : Int) ∧ (∀ b, b < dB d → σ' 51 b = ((plK d k b : Nat) : Int)) ∧ GoIn σ' (dn d) (d 1) (pmF (dn d) k) (dg d) (db d) 0 ∧ InvM σ' d ∧ (∀ q, q ≠ 40 → q ≠ 49 → q ≠ 51 → σ' q = σ q) := by
  have e0 : (fun j => andn (d 4 j) 0) = d 4 := fun_andn0 d
  obtain ⟨σ2, s1, s2, s3, s4⟩ := go_all hM.1 hG (pmF_perm _ k) hO.1.1
  rw [e0] at s1 s4
  exact ⟨σ2, s1, s4.1, s4.2.1, hG.kept (s2 _ (by decide) (by decide) (by decide)) (s2 _ (by decide) (by decide) (by decide)) (s3 _ (by decide)) (s3 _ (by decide)) (s3 _ (by decide)), go_inv hM s2 s3, s2⟩
theorem m_next {d : Dt} {σ : Sg} {k : Nat} (hO : OkD d) (hk : k < FaD d) (hM : InvM σ d) (hG : GoIn σ (dn d) (d 1) (pmF (dn d) k) (dg d) (db d) 0) : ∃ σ', Cal 111 [vR 40] σ = some (vI (if k + 1 < FaD d then 1 else 0), σ') ∧ GoIn σ' (dn d) (d 1) (pmF (dn d) (k + 1)) (dg d) (db d) 0 ∧ InvM σ' d ∧ (∀ q, q ≠ 48 → σ' q = σ q) := by
  obtain ⟨s1, a1, a2, a3⟩ := nm_all hO.1.2.1 hO.1.1 hM.1.1 (pmF_perm _ k) hG.1
  obtain ⟨h1, h2⟩ := seats_n hO.1.2.1 hO.1.1
  have e : hasN (dn d) (pmF (dn d) k) = decide (k + 1 < FaD d) := by
    by_cases c : k + 1 < FaD d
    · rw [h1 k c]
      simp [c]
    · have : k = fac (dn d) - 1 := by
        unfold FaD at c hk
        omega
      rw [this, h2]
      symm
      have c2 : ¬ fac (dn d) - 1 + 1 < FaD d := by
        rw [← this]
        exact c
      simp [c2]
  refine ⟨s1, ?_, hG.seats a3 a2, hM.k48 a2, a2⟩
  rw [a1, e]
  by_cases c : k + 1 < FaD d
  · simp [c]
  · simp [c]
theorem m_start {d : Dt} {σ : Sg} (hO : OkD d) (hM : InvM σ d) : ∃ σ1 σ2, Cal 92 [vR 40] σ = some (vI 0, σ1) ∧ Cal 109 [vR 40] σ1 = some (vI 0, σ2) ∧ GoIn σ2 (dn d) (d 1) (pmF (dn d) 0) (dg d) (db d) 0 ∧ InvM σ2 d ∧ FrM σ σ2 := by
  obtain ⟨s1, a1, a2, a3, a4⟩ := asit hO hM
  obtain ⟨s2, b1, b2, b3⟩ := fs_all hO.1.2.1 a4.1.1
  exact ⟨s1, s2, a1, b1, a3.seats b3 b2, a4.k48 b2, fun q hq => by rw [b2 q (by omega), a2 q (by omega) (by omega) (by omega)]⟩
-- best
def bwS (d : Dt) (x : Int) : Nat → Int
  | 0 => 0
  | k + 1 => if (most (ntK d) k).1 < (ntK d k : Int) then (if x < 0 then 0 else ((pmF (dn d) k x.toNat : Nat) : Int)) else bwS d x k
theorem bwS_most {d : Dt} {x : Int} (hx : 0 ≤ x) : ∀ k, 0 < k → bwS d x k = ((pmF (dn d) (most (ntK d) k).2 x.toNat : Nat) : Int)
  | 0, h => by omega
  | k + 1, _ => by
    show (if _ then _ else _) = _
    have em : most (ntK d) (k + 1) = if (most (ntK d) k).1 < (ntK d k : Int) then ((ntK d k : Int), k) else most (ntK d) k := rfl
    rw [em]
    by_cases c : (most (ntK d) k).1 < (ntK d k : Int)
    · rw [if_pos c, if_pos c, if_neg (by omega)]
    · rw [if_neg c, if_neg c]
      rcases Nat.eq_zero_or_pos k with g | g
      · exfalso
        rw [g] at c
        apply c
        show (-1 : Int) < _
        omega
      · exact bwS_most hx k g
theorem m_best_loop {d : Dt} {x : Int} (hO : OkD d) (hx : InR x) (hx1 : x < (dn d : Int)) : ∀ (r k : Nat) (σ : Sg), k + r = FaD d → InvM σ d → GoIn σ (dn d) (d 1) (pmF (dn d) k) (dg d) (db d) 0 → ∃ σ', Run 112 30 [vR 40, vI x, vI (most (ntK d) k).1, vI (bwS d x k), vI (if k < FaD d then 1 else 0)] [] σ = some (vI (if x = -1 then (most (ntK d) (FaD d)).1 else bwS d x (FaD d)), σ') ∧ InvM σ' d ∧ FrM σ σ'
  | 0, k, σ, h, hM, hG => by
    have e : k = FaD d := by omega
    have w1 : wr (-1) = -1 := by decide
    refine ⟨σ, ?_, hM, FrM.rf σ⟩
    rw [q112_30, if_neg (show ¬ k < FaD d by omega), wr_0, if_pos rfl, wr_in hx, w1, e]
    by_cases c : x = -1
    · rw [if_pos c, if_pos c]
    · rw [if_neg c, if_neg c]
  | r + 1, k, σ, h, hM, hG => by
    have hn := hO.1.2.1
    have hk : k < FaD d := by omega
    have lm := most_le (f := ntK d) (fun k => ntK_le hO k) k
    have ln := ntK_le hO k
    obtain ⟨s1, a1, a2, a3, a4, a5, a6⟩ := m_goB hO hM hG
    obtain ⟨s2, b1, b2, b3, b4⟩ := m_next hO hk a5 a4
    obtain ⟨σ', t1, t2, t3⟩ := m_best_loop hO hx hx1 r (k + 1) s2 (by omega) b3 b2
    refine ⟨σ', ?_, t2, fun q hq => by rw [t3 q hq, b4 q (by omega), a6 q (by omega) (by omega) (by omega)]⟩
    refine Eq.trans ?_ t1
    have step : ∀ (u v : Int) (w : Int), u = (most (ntK d) (k + 1)).1 → v = bwS d x (k + 1) → Run 112 68 [vR 40, vI x, vI u, vI v, vI w] [] s1 = Run 112 30 [vR 40, vI x, vI (most (ntK d) (k + 1)).1, vI (bwS d x (k + 1)), vI (if k + 1 < FaD d then 1 else 0)] [] s2 := fun u v w hu hv => by
      rw [q112_68, b1, kcI_s, hu, hv]
    have em : most (ntK d) (k + 1) = if (most (ntK d) k).1 < (ntK d k : Int) then ((ntK d k : Int), k) else most (ntK d) k := rfl
    have eb : bwS d x (k + 1) = if (most (ntK d) k).1 < (ntK d k : Int) then (if x < 0 then 0 else ((pmF (dn d) k x.toNat : Nat) : Int)) else bwS d x k := rfl
    rw [q112_30, if_pos hk, wr_1, if_neg (by decide), a1, kcI_s, a2, wr_id (x := (most (ntK d) k).1) (by omega) (by omega), wr_id (x := ((ntK d k : Nat) : Int)) (by omega) (by omega), wr_in hx]
    by_cases c : (most (ntK d) k).1 < (ntK d k : Int)
    · rw [if_pos c] at em eb
      rw [if_pos c]
      by_cases c0 : x < 0
      · rw [if_pos c0] at eb
        rw [if_pos c0]
        exact step _ _ _ (by rw [em]) eb.symm
      · rw [if_neg c0] at eb
        rw [if_neg c0, if_pos (by omega)]
        refine step _ _ _ (by rw [em]) ?_
        rw [eb]
        exact a4.1 _ (by omega)
    · rw [if_neg c] at em eb
      rw [if_neg c]
      exact step _ _ _ (by rw [em]) eb.symm
theorem m_best {d : Dt} {σ : Sg} {x : Int} (hO : OkD d) (hM : InvM σ d) (hx : InR x) : ∃ σ', Cal 112 [vR 40, vI x] σ = some (vI (r_best d x), σ') ∧ InvM σ' d ∧ FrM σ σ' := by
  have hn := hO.1.2.1
  have w1 : wr (-1) = -1 := by decide
  have e0 : Cal 112 [vR 40, vI x] σ = _ := q112_0 x σ
  have lF := FaD_le hO
  have fin : x < (dn d : Int) → ∃ σ', Run 112 15 [vR 40, vI x, vJ, vJ, vJ] [] σ = some (vI (if x = -1 then (most (ntK d) (FaD d)).1 else bwS d x (FaD d)), σ') ∧ InvM σ' d ∧ FrM σ σ' := fun hx1 => by
    obtain ⟨s1, s2, a1, a2, a3, a4, a5⟩ := m_start hO hM
    obtain ⟨σ', t1, t2, t3⟩ := m_best_loop hO hx hx1 (FaD d) 0 s2 (by omega) a4 a3
    rw [if_pos lF.1] at t1
    refine ⟨σ', ?_, t2, a5.tr t3⟩
    rw [q112_15, a1, kcV_s, a2, kcV_s]
    exact t1
  rw [wr_in hx, w1, isI_m hM hx, kcI_s] at e0
  unfold r_best
  by_cases c1 : x = -1
  · rw [if_pos c1] at e0
    obtain ⟨σ', t1, t2, t3⟩ := fin (by omega)
    rw [if_pos c1] at t1 ⊢
    exact ⟨σ', e0.trans t1, t2, t3⟩
  · rw [if_neg c1] at e0
    rw [if_neg c1]
    by_cases c : 0 ≤ x ∧ x < (dn d : Int)
    · rw [if_pos c, wr_1, if_neg (by decide)] at e0
      obtain ⟨σ', t1, t2, t3⟩ := fin (by omega)
      rw [if_neg c1, bwS_most c.1 _ lF.1] at t1
      rw [if_pos c]
      exact ⟨σ', e0.trans t1, t2, t3⟩
    · rw [if_neg c, wr_0, if_pos rfl] at e0
      rw [if_neg c]
      exact ⟨σ, e0, hM, FrM.rf σ⟩
-- changes
theorem m_changes_loop {d : Dt} (hO : OkD d) : ∀ (r k : Nat) (x3 : AV) (σ : Sg), k + r = FaD d → InvM σ d → GoIn σ (dn d) (d 1) (pmF (dn d) k) (dg d) (db d) 0 → ∃ σ', Run 114 13 [vR 40, vI (fewest (fun j => whK d j == dB d) (farK d) k), vI (if k < FaD d then 1 else 0), x3] [] σ = some (vI (r_changes d), σ') ∧ InvM σ' d ∧ FrM σ σ'
  | 0, k, x3, σ, h, hM, hG => by
    have e : k = FaD d := by omega
    refine ⟨σ, ?_, hM, FrM.rf σ⟩
    rw [q114_13, if_neg (show ¬ k < FaD d by omega), wr_0, if_pos rfl, e]
    rfl
  | r + 1, k, x3, σ, h, hM, hG => by
    have hn := hO.1.2.1
    have hB8 := hO.1.2.2.1
    have w4 : wr (-4) = -4 := by decide
    have hk : k < FaD d := by omega
    have lw := whK_le d k
    have lf := farK_le d k
    have lfe := few_le (P := fun j => whK d j == dB d) (f := farK d) (fun k => by have := farK_le d k; omega) k
    obtain ⟨s1, a1, a2, a3, a4, a5, a6⟩ := m_goB hO hM hG
    obtain ⟨s2, b1, b2, b3, b4⟩ := m_next hO hk a5 a4
    have ih := fun x3 => m_changes_loop hO r (k + 1) x3 s2 (by omega) b3 b2
    have fr : ∀ σ', FrM s2 σ' → FrM σ σ' := fun σ' t3 q hq => by rw [t3 q hq, b4 q (by omega), a6 q (by omega) (by omega) (by omega)]
    have step : ∀ (u : Int) (w : AV), u = fewest (fun j => whK d j == dB d) (farK d) (k + 1) → ∃ σ', Run 114 52 [vR 40, vI u, vI 1, w] [] s1 = some (vI (r_changes d), σ') ∧ InvM σ' d ∧ FrM σ σ' := fun u w hu => by
      obtain ⟨σ', t1, t2, t3⟩ := ih w
      refine ⟨σ', ?_, t2, fr _ t3⟩
      rw [q114_52, b1, kcI_s, hu]
      exact t1
    have ef : fewest (fun j => whK d j == dB d) (farK d) (k + 1) = if (whK d k == dB d) = true then (if fewest (fun j => whK d j == dB d) (farK d) k = -4 ∨ (farK d k : Int) < fewest (fun j => whK d j == dB d) (farK d) k then (farK d k : Int) else fewest (fun j => whK d j == dB d) (farK d) k) else fewest (fun j => whK d j == dB d) (farK d) k := rfl
    have efar : Cal 113 [vR 40] s1 = some (vI ((farK d k : Nat) : Int), s1) := m_far hO a5 (pmF_perm _ k) a4.1
    have hB : s1 42 1 = (dB d : Int) := a5.1.2.2.1
    rw [q114_13, if_pos hk, wr_1, if_neg (by decide), a1, kcI_s, if_pos (by decide), show (1 : Int).toNat = 1 from rfl, hB, wr_id (x := ((whK d k : Nat) : Int)) (by omega) (by omega), wr_id (x := (dB d : Int)) (by omega) (by omega), efar, kcI_s, w4, wr_id (x := ((farK d k : Nat) : Int)) (by omega) (by omega), wr_id (x := fewest (fun j => whK d j == dB d) (farK d) k) (by omega) (by omega)]
    by_cases c : whK d k = dB d
    · rw [if_pos ((wh_bq d k).mpr c)] at ef
      rw [if_pos (by omega)]
      by_cases c4 : fewest (fun j => whK d j == dB d) (farK d) k = -4
      · rw [if_pos (Or.inl c4)] at ef
        rw [if_pos c4]
        exact step _ _ ef.symm
      · rw [if_neg c4]
        by_cases c5 : (farK d k : Int) < fewest (fun j => whK d j == dB d) (farK d) k
        · rw [if_pos (Or.inr c5)] at ef
          rw [if_pos c5]
          exact step _ _ ef.symm
        · rw [if_neg (fun z => z.elim c4 c5)] at ef
          rw [if_neg c5]
          exact step _ _ ef.symm
    · rw [if_neg (fun z => c ((wh_bq d k).mp z))] at ef
      rw [if_neg (by omega)]
      exact step _ _ ef.symm
theorem m_changes {d : Dt} {σ : Sg} (hO : OkD d) (hM : InvM σ d) : ∃ σ', Cal 114 [vR 40] σ = some (vI (r_changes d), σ') ∧ InvM σ' d ∧ FrM σ σ' := by
  have e0 : Cal 114 [vR 40] σ = _ := q114_0 σ
  have lF := FaD_le hO
  obtain ⟨s1, s2, a1, a2, a3, a4, a5⟩ := m_start hO hM
  obtain ⟨σ', t1, t2, t3⟩ := m_changes_loop hO (FaD d) 0 vJ s2 (by omega) a4 a3
  rw [if_pos lF.1] at t1
  rw [a1, kcV_s, a2, kcV_s] at e0
  exact ⟨σ', e0.trans t1, t2, a5.tr t3⟩
-- shares
theorem m_gcd {x1 x2 x3 x4 x5 : Int} {P W : Nat} {σ : Sg} (hz : InR x2) (e3 : x3 = (P : Int)) (e4 : x4 = (W : Int)) (hW : 0 < W) (hP : P ≤ 5040) (hW2 : W ≤ 5040) : ∀ (r a b : Nat) (x8 : AV), b ≤ r → a < 2147483648 → b < 2147483648 → Nat.gcd a b = Nat.gcd P W → Run 120 85 [vR 40, vI x1, vI x2, vI x3, vI x4, vI x5, vI a, vI b, x8] [] σ = some (vI (r_low P W x2), σ) := by
  have fin : ∀ (a : Nat) (x8 : AV), a < 2147483648 → Nat.gcd a 0 = Nat.gcd P W → Run 120 85 [vR 40, vI x1, vI x2, vI x3, vI x4, vI x5, vI a, vI ((0 : Nat) : Int), x8] [] σ = some (vI (r_low P W x2), σ) := fun a x8 ha hg => by
    have e : wr ((0 : Nat) : Int) = 0 := by decide
    rw [Nat.gcd_zero_right] at hg
    have g0 := Nat.gcd_pos_of_pos_right P hW
    have i1 := idv_n P (Nat.gcd P W) (by omega) (by omega)
    have i2 := idv_n W (Nat.gcd P W) (by omega) (by omega)
    rw [q120_85, e, if_neg (by decide), wr_in hz, hg, e3, e4]
    unfold r_low
    generalize Nat.gcd P W = g at *
    rw [wr_id (x := (g : Int)) (by omega) (by omega), i1, i2]
    by_cases c : x2 = 0
    · rw [if_pos c, if_pos c, if_neg (by omega)]
    · rw [if_neg c, if_neg c, if_neg (by omega)]
  intro r
  induction r with
  | zero =>
    intro a b x8 hb ha hb2 hg
    have b0 : b = 0 := by omega
    subst b0
    exact fin a x8 ha hg
  | succ r ih =>
    intro a b x8 hb ha hb2 hg
    rcases Nat.eq_zero_or_pos b with b0 | b0
    · subst b0
      exact fin a x8 ha hg
    · have l1 := Nat.mod_lt a b0
      rw [q120_85, wr_id (x := (b : Int)) (by omega) (by omega), if_pos (show (0 : Int) < (b : Int) by omega), if_neg (show ¬ (b : Int) = 0 by omega), irm_n a b (by omega) (by omega)]
      exact ih b (a % b) _ (by omega) (by omega) (by omega) (by rw [gcd_st, hg])
def shP (d : Dt) (x : Int) (j : Nat) : Bool := if x < 0 then whK d j == dB d else decide (x.toNat ≤ ntK d j)
theorem m_share_loop {d : Dt} {x z : Int} (hO : OkD d) (hx : InR x) (hz : InR z) : ∀ (r k : Nat) (x6 : AV) (σ : Sg), k + r = FaD d → InvM σ d → GoIn σ (dn d) (d 1) (pmF (dn d) k) (dg d) (db d) 0 → ∃ σ', Run 120 16 [vR 40, vI x, vI z, vI ((cnt (shP d x) k : Nat) : Int), vI k, vI (if k < FaD d then 1 else 0), x6, vJ, vJ] [] σ = some (vI (r_low (cnt (shP d x) (FaD d)) (FaD d) z), σ') ∧ InvM σ' d ∧ FrM σ σ'
  | 0, k, x6, σ, h, hM, hG => by
    have e : k = FaD d := by omega
    have lF := FaD_le hO
    have lc := cnt_le (shP d x) (FaD d)
    refine ⟨σ, ?_, hM, FrM.rf σ⟩
    rw [q120_16, if_neg (show ¬ k < FaD d by omega), wr_0, if_pos rfl, e]
    exact m_gcd hz rfl rfl lF.1 (by omega) (by omega) 5040 _ _ vJ (by omega) (by omega) (by omega) rfl
  | r + 1, k, x6, σ, h, hM, hG => by
    have hn := hO.1.2.1
    have hB8 := hO.1.2.2.1
    have hk : k < FaD d := by omega
    have lw := whK_le d k
    have ln := ntK_le hO k
    obtain ⟨s1, a1, a2, a3, a4, a5, a6⟩ := m_goB hO hM hG
    obtain ⟨s2, b1, b2, b3, b4⟩ := m_next hO hk a5 a4
    obtain ⟨σ', t1, t2, t3⟩ := m_share_loop hO hx hz r (k + 1) (vI ((whK d k : Nat) : Int)) s2 (by omega) b3 b2
    refine ⟨σ', ?_, t2, fun q hq => by rw [t3 q hq, b4 q (by omega), a6 q (by omega) (by omega) (by omega)]⟩
    refine Eq.trans ?_ t1
    have hB : s1 42 1 = (dB d : Int) := a5.1.2.2.1
    have ec : cnt (shP d x) (k + 1) = cnt (shP d x) k + (if shP d x k = true then 1 else 0) := rfl
    have step : ∀ (w : Int), ((cnt (shP d x) k : Nat) : Int) + w = ((cnt (shP d x) (k + 1) : Nat) : Int) → Run 120 64 [vR 40, vI x, vI z, vI ((cnt (shP d x) k : Nat) : Int), vI k, vI 1, vI ((whK d k : Nat) : Int), vJ, vJ] [vI w, vI ((cnt (shP d x) k : Nat) : Int)] s1 = Run 120 16 [vR 40, vI x, vI z, vI ((cnt (shP d x) (k + 1) : Nat) : Int), vI ((k + 1 : Nat) : Int), vI (if k + 1 < FaD d then 1 else 0), vI ((whK d k : Nat) : Int), vJ, vJ] [] s2 := fun w hw => by
      rw [q120_64, b1, kcI_s, hw]
      rfl
    rw [q120_16, if_pos hk, wr_1, if_neg (by decide), a1, kcI_s, a2, if_pos (show (0 : Int) ≤ 1 ∧ (1 : Int) < 40 by decide), show (1 : Int).toNat = 1 from rfl, hB, wr_id (x := ((whK d k : Nat) : Int)) (by omega) (by omega), wr_id (x := (dB d : Int)) (by omega) (by omega), wr_id (x := ((ntK d k : Nat) : Int)) (by omega) (by omega), wr_in hx]
    by_cases c0 : x < 0
    · have es : shP d x k = (whK d k == dB d) := if_pos c0
      rw [if_pos c0]
      by_cases c : whK d k = dB d
      · rw [es, if_pos ((wh_bq d k).mpr c)] at ec
        rw [if_pos (by omega)]
        exact step 1 (by rw [ec]; rfl)
      · rw [es, if_neg (fun z => c ((wh_bq d k).mp z))] at ec
        rw [if_neg (by omega)]
        exact step 0 (by rw [ec]; rfl)
    · have es : shP d x k = decide (x.toNat ≤ ntK d k) := if_neg c0
      rw [if_neg c0]
      by_cases c : ((ntK d k : Nat) : Int) < x
      · rw [es, if_neg (by rw [decide_eq_true_eq]; omega)] at ec
        rw [if_pos c]
        exact step 0 (by rw [ec]; rfl)
      · rw [es, if_pos (by rw [decide_eq_true_eq]; omega)] at ec
        rw [if_neg c]
        exact step 1 (by rw [ec]; rfl)
theorem m_share {d : Dt} {σ : Sg} {x z : Int} (hO : OkD d) (hM : InvM σ d) (hx : InR x) (hz : InR z) : ∃ σ', Cal 120 [vR 40, vI x, vI z] σ = some (vI (r_low (cnt (shP d x) (FaD d)) (FaD d) z), σ') ∧ InvM σ' d ∧ FrM σ σ' := by
  have e0 : Cal 120 [vR 40, vI x, vI z] σ = _ := q120_0 x z σ
  have lF := FaD_le hO
  obtain ⟨s1, s2, a1, a2, a3, a4, a5⟩ := m_start hO hM
  obtain ⟨σ', t1, t2, t3⟩ := m_share_loop hO hx hz (FaD d) 0 vJ s2 (by omega) a4 a3
  rw [if_pos lF.1] at t1
  rw [a1, kcV_s, a2, kcV_s] at e0
  exact ⟨σ', e0.trans t1, t2, a5.tr t3⟩
theorem m_odds {d : Dt} {σ : Sg} {x : Int} (hO : OkD d) (hM : InvM σ d) (hx : InR x) : ∃ σ', Cal 121 [vR 40, vI x] σ = some (vI (r_odds d x), σ') ∧ InvM σ' d ∧ FrM σ σ' := by
  have e0 : Cal 121 [vR 40, vI x] σ = _ := q121_0 x σ
  have e1 : Cal 79 [vI x, vI 0, vI 1] σ = some (vI (if 0 ≤ x ∧ x ≤ 1 then 1 else 0), σ) := in_m hx ⟨by omega, by omega⟩ ⟨by omega, by omega⟩
  rw [e1, kcI_s] at e0
  unfold r_odds
  by_cases c : 0 ≤ x ∧ x ≤ 1
  · obtain ⟨σ', t1, t2, t3⟩ := m_share (x := -1) hO hM ⟨by decide, by decide⟩ hx
    rw [if_pos c, wr_1, if_neg (by decide), t1, kcI_s] at e0
    rw [if_pos c]
    exact ⟨σ', e0, t2, t3⟩
  · rw [if_neg c, wr_0, if_pos rfl] at e0
    rw [if_neg c]
    exact ⟨σ, e0, hM, FrM.rf σ⟩
theorem m_atLeast {d : Dt} {σ : Sg} {x y : Int} (hO : OkD d) (hM : InvM σ d) (hx : InR x) (hy : InR y) : ∃ σ', Cal 122 [vR 40, vI x, vI y] σ = some (vI (r_atLeast d x y), σ') ∧ InvM σ' d ∧ FrM σ σ' := by
  have e0 : Cal 122 [vR 40, vI x, vI y] σ = _ := q122_0 x y σ
  have e1 : Cal 79 [vI x, vI 0, vI 56] σ = some (vI (if 0 ≤ x ∧ x ≤ 56 then 1 else 0), σ) := in_m hx ⟨by omega, by omega⟩ ⟨by omega, by omega⟩
  have e2 : Cal 79 [vI y, vI 0, vI 1] σ = some (vI (if 0 ≤ y ∧ y ≤ 1 then 1 else 0), σ) := in_m hy ⟨by omega, by omega⟩ ⟨by omega, by omega⟩
  rw [e1, kcI_s] at e0
  unfold r_atLeast
  by_cases c : 0 ≤ x ∧ x ≤ 56
  · rw [if_pos c, wr_1, if_neg (by decide), e2, kcI_s] at e0
    by_cases c2 : 0 ≤ y ∧ y ≤ 1
    · obtain ⟨σ', t1, t2, t3⟩ := m_share hO hM hx hy
      rw [if_pos c2, wr_1, if_neg (by decide), t1, kcI_s] at e0
      rw [if_pos ⟨c, c2⟩]
      have es : shP d x = fun j => decide (x.toNat ≤ ntK d j) := funext fun j => if_neg (by omega)
      rw [es] at e0
      exact ⟨σ', e0, t2, t3⟩
    · rw [if_neg c2, wr_0, if_pos rfl] at e0
      rw [if_neg (fun h => c2 h.2)]
      exact ⟨σ, e0, hM, FrM.rf σ⟩
  · rw [if_neg c, wr_0, if_pos rfl] at e0
    rw [if_neg (fun h => c h.1)]
    exact ⟨σ, e0, hM, FrM.rf σ⟩
-- heard alike
theorem m_al_in {d : Dt} {k : Nat} {σ : Sg} {x1 : Int} (hO : OkD d) (hM : InvM σ d) (h1 : ∀ b, b < dB d → σ 51 b = ((plK d k b : Nat) : Int)) (h2 : ∀ b, b < dB d → σ 52 b = ((plD d b : Nat) : Int)) : ∀ (r b : Nat) (fl : Int), b + r = dB d → (fl = 1 ∧ (∀ j, j < b → plK d k j = plD d j) ∨ fl = 0 ∧ ∃ j, j < dB d ∧ plK d k j ≠ plD d j) → ∃ u : Int, Run 119 61 [vR 40, vI x1, vI 1, vI fl, vI b] [] σ = Run 119 115 [vR 40, vI x1, vI 1, vI u, vI (dB d)] [vI (if alK d k = true then 1 else 0), vI x1] σ
  | 0, b, fl, h, hf => by
    have hB8 := hO.1.2.2.1
    have e : b = dB d := by omega
    refine ⟨fl, ?_⟩
    rw [q119_61, wr_1, if_pos (by decide), show (1 : Int).toNat = 1 from rfl, hM.1.2.2.1, wr_id (x := (b : Int)) (by omega) (by omega), wr_id (x := (dB d : Int)) (by omega) (by omega), if_neg (show ¬ (b : Int) < (dB d : Int) by omega)]
    rcases hf with ⟨g, g1⟩ | ⟨g, j, j1, j2⟩
    · rw [g, wr_1, if_neg (by decide), if_pos (alK_iff.mpr (by rw [← e]; exact g1)), e]
    · rw [g, wr_0, if_pos rfl, if_neg (fun z => j2 (alK_iff.mp z j j1)), e]
  | r + 1, b, fl, h, hf => by
    have hB8 := hO.1.2.2.1
    have hp := p2_7 hO.1.2.1
    have l1 := plK_lt d k b
    have l2 := plD_lt d b
    have hb : b < dB d := by omega
    have ih := m_al_in (x1 := x1) hO hM h1 h2 r (b + 1)
    have e0 := q119_61 x1 1 fl (b : Int) σ
    rw [wr_1, if_pos (show (0 : Int) ≤ 1 ∧ (1 : Int) < 40 by decide), show (1 : Int).toNat = 1 from rfl, hM.1.2.2.1, wr_id (x := (b : Int)) (by omega) (by omega), wr_id (x := (dB d : Int)) (by omega) (by omega), if_pos (show (b : Int) < (dB d : Int) by omega), if_pos (show 0 ≤ (b : Int) ∧ (b : Int) < 8 by omega), toN, h1 b hb, h2 b hb, wr_id (x := ((plK d k b : Nat) : Int)) (by omega) (by omega), wr_id (x := ((plD d b : Nat) : Int)) (by omega) (by omega)] at e0
    rcases hf with ⟨g, g1⟩ | ⟨g, j, j1, j2⟩
    · rw [g, wr_1, if_neg (show ¬ (1 : Int) = 0 by decide), if_pos (show 0 ≤ (b : Int) ∧ (b : Int) < 8 by omega)] at e0
      rw [g]
      by_cases c : plK d k b = plD d b
      · obtain ⟨u, hu⟩ := ih 1 (by omega) (Or.inl ⟨rfl, fun j hj => by
          rcases (show j < b ∨ j = b by omega) with q | q
          · exact g1 j q
          · rw [q]; exact c⟩)
        rw [if_pos (by omega)] at e0
        exact ⟨u, e0.trans hu⟩
      · obtain ⟨u, hu⟩ := ih 0 (by omega) (Or.inr ⟨rfl, b, hb, c⟩)
        rw [if_neg (by omega)] at e0
        exact ⟨u, e0.trans hu⟩
    · obtain ⟨u, hu⟩ := ih 0 (by omega) (Or.inr ⟨rfl, j, j1, j2⟩)
      rw [g, wr_0, if_pos rfl] at e0
      rw [g]
      exact ⟨u, e0.trans hu⟩
theorem m_al_loop {d : Dt} (hO : OkD d) : ∀ (r k : Nat) (x3 x4 : AV) (σ : Sg), k + r = FaD d → InvM σ d → GoIn σ (dn d) (d 1) (pmF (dn d) k) (dg d) (db d) 0 → (∀ b, b < dB d → σ 52 b = ((plD d b : Nat) : Int)) → ∃ σ', Run 119 47 [vR 40, vI ((cnt (alK d) k : Nat) : Int), vI (if k < FaD d then 1 else 0), x3, x4] [] σ = some (vI (r_alike d), σ') ∧ InvM σ' d ∧ FrM σ σ'
  | 0, k, x3, x4, σ, h, hM, hG, h52 => by
    have e : k = FaD d := by omega
    refine ⟨σ, ?_, hM, FrM.rf σ⟩
    rw [q119_47, if_neg (show ¬ k < FaD d by omega), wr_0, if_pos rfl, e]
    rfl
  | r + 1, k, x3, x4, σ, h, hM, hG, h52 => by
    have hk : k < FaD d := by omega
    obtain ⟨s1, a1, a2, a3, a4, a5, a6⟩ := m_goB hO hM hG
    have h52' : ∀ b, b < dB d → s1 52 b = ((plD d b : Nat) : Int) := fun b hb => by rw [a6 52 (by decide) (by decide) (by decide)]; exact h52 b hb
    obtain ⟨s2, b1, b2, b3, b4⟩ := m_next hO hk a5 a4
    obtain ⟨u, hu⟩ := m_al_in (x1 := ((cnt (alK d) k : Nat) : Int)) hO a5 a3 h52' (dB d) 0 1 (by omega) (Or.inl ⟨rfl, fun j hj => by omega⟩)
    obtain ⟨σ', t1, t2, t3⟩ := m_al_loop hO r (k + 1) (vI u) (vI (dB d)) s2 (by omega) b3 b2 (fun b hb => by rw [b4 52 (by decide)]; exact h52' b hb)
    refine ⟨σ', ?_, t2, fun q hq => by rw [t3 q hq, b4 q (by omega), a6 q (by omega) (by omega) (by omega)]⟩
    have hu' : Run 119 61 [vR 40, vI ((cnt (alK d) k : Nat) : Int), vI 1, vI 1, vI 0] [] s1 = _ := hu
    have ec : ((cnt (alK d) k : Nat) : Int) + (if alK d k = true then 1 else 0) = ((cnt (alK d) (k + 1) : Nat) : Int) := by
      show _ = ((cnt (alK d) k + _ : Nat) : Int)
      split <;> rfl
    rw [q119_47, if_pos hk, wr_1, if_neg (by decide), a1, kcI_s, hu', q119_115, b1, kcI_s, ec]
    exact t1
theorem m_al_copy {d : Dt} (hO : OkD d) : ∀ (r b : Nat) (σ : Sg), b + r = dB d → InvM σ d → (∀ j, j < dB d → σ 51 j = ((plD d j : Nat) : Int)) → (∀ j, j < b → σ 52 j = ((plD d j : Nat) : Int)) → ∃ σ', Run 119 11 [vR 40, vI b, vJ, vJ, vJ] [] σ = kcV (Cal 109 [vR 40] σ') (fun s1 => Run 119 47 [vR 40, vI 0, vI 1, vJ, vJ] [] s1) ∧ (∀ j, j < dB d → σ' 52 j = ((plD d j : Nat) : Int)) ∧ (∀ q, q ≠ 52 → σ' q = σ q)
  | 0, b, σ, h, hM, h1, h2 => by
    have hB8 := hO.1.2.2.1
    have e : b = dB d := by omega
    refine ⟨σ, ?_, fun j hj => h2 j (by omega), fun _ _ => rfl⟩
    rw [q119_11, wr_1, if_pos (by decide), show (1 : Int).toNat = 1 from rfl, hM.1.2.2.1, wr_id (x := (b : Int)) (by omega) (by omega), wr_id (x := (dB d : Int)) (by omega) (by omega), if_neg (show ¬ (b : Int) < (dB d : Int) by omega)]
  | r + 1, b, σ, h, hM, h1, h2 => by
    have hB8 := hO.1.2.2.1
    have hb : b < dB d := by omega
    have hM1 : InvM (up σ 52 b ((plD d b : Nat) : Int)) d := hM.kept (up_ne (by decide)) (up_ne (by decide)) (up_ne (by decide)) (up_ne (by decide)) (up_ne (by decide)) (up_ne (by decide)) (by rw [up_ne (by decide)]) (by rw [up_ne (by decide)]) (by rw [up_ne (by decide)]) (by rw [up_ne (by decide)])
    obtain ⟨σ', t1, t2, t3⟩ := m_al_copy hO r (b + 1) (up σ 52 b ((plD d b : Nat) : Int)) (by omega) hM1 (fun j hj => by rw [up_p _ _ _ (by decide)]; exact h1 j hj) (fun j hj => by
      rw [up_j]
      by_cases c : j = b
      · rw [if_pos c, c]
      · rw [if_neg c]; exact h2 j (by omega))
    refine ⟨σ', ?_, t2, fun q hq => by rw [t3 q hq, up_ne hq]⟩
    rw [q119_11, wr_1, if_pos (by decide), show (1 : Int).toNat = 1 from rfl, hM.1.2.2.1, wr_id (x := (b : Int)) (by omega) (by omega), wr_id (x := (dB d : Int)) (by omega) (by omega), if_pos (show (b : Int) < (dB d : Int) by omega), if_pos (show 0 ≤ (b : Int) ∧ (b : Int) < 8 by omega), if_pos (show 0 ≤ (b : Int) ∧ (b : Int) < 8 by omega), toN, h1 b hb]
    exact t1
theorem m_alike {d : Dt} {σ : Sg} (hO : OkD d) (hM : InvM σ d) : ∃ σ', Cal 119 [vR 40] σ = some (vI (r_alike d), σ') ∧ InvM σ' d ∧ FrM σ σ' := by
  have e0 : Cal 119 [vR 40] σ = _ := q119_0 σ
  have lF := FaD_le hO
  obtain ⟨s1, s2, r1, r2, r3, r4, r5, r6⟩ := now_m hO hM
  rw [r1, kcV_s, r2, kcI_s] at e0
  obtain ⟨s3, a1, a2, a3⟩ := m_al_copy hO (dB d) 0 s2 (by omega) r5 r3.2.1 (fun j hj => by omega)
  have hM3 : InvM s3 d := r5.kept (a3 _ (by decide)) (a3 _ (by decide)) (a3 _ (by decide)) (a3 _ (by decide)) (a3 _ (by decide)) (a3 _ (by decide)) (by rw [a3 _ (by decide)]) (by rw [a3 _ (by decide)]) (by rw [a3 _ (by decide)]) (by rw [a3 _ (by decide)])
  obtain ⟨s4, b1, b2, b3⟩ := fs_all hO.1.2.1 hM3.1.1
  have hG3 : GoIn s3 (dn d) (d 1) (d 5) (dg d) (db d) 0 := r4.kept (a3 _ (by decide)) (a3 _ (by decide)) (by rw [a3 _ (by decide)]) (by rw [a3 _ (by decide)]) (by rw [a3 _ (by decide)])
  obtain ⟨σ', t1, t2, t3⟩ := m_al_loop hO (FaD d) 0 vJ vJ s4 (by omega) (hM3.k48 b2) (hG3.seats b3 b2) (fun b hb => by rw [b2 52 (by decide)]; exact a2 b hb)
  rw [if_pos lF.1] at t1
  have a1' : Run 119 11 [vR 40, vI 0, vJ, vJ, vJ] [] s2 = _ := a1
  rw [a1', b1, kcV_s] at e0
  exact ⟨σ', e0.trans t1, t2, fun q hq => by rw [t3 q hq, b2 q (by omega), a3 q (by omega), r6 q hq]⟩
