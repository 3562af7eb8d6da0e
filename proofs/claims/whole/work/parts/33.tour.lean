/-! tour, in the class -/
def trS (d : Dt) (x : Nat) : Nat → Nat → Nat
  | 0 => d 5
  | t + 1 => swF (trS d x t) (drw x t % dn d) (drw x t / 8 % dn d)
def trW (d : Dt) (x : Nat) : Nat → Nat
  | 0 => 0
  | t + 1 => trW d x t + (if whX d (trS d x (t + 1)) (dg d) (db d) 0 = dB d then 1 else 0)
def trM (d : Dt) (x : Nat) : Nat → Nat
  | 0 => 0
  | t + 1 => if trM d x t < ntX d (trS d x (t + 1)) (dg d) (db d) 0 then ntX d (trS d x (t + 1)) (dg d) (db d) 0 else trM d x t
theorem trS_perm {d : Dt} (hO : OkD d) (x : Nat) : ∀ t, PermS (dn d) (trS d x t)
  | 0 => hO.2.2.2.1
  | t + 1 => swF_perm (trS_perm hO x t) (Nat.mod_lt _ hO.1.1) (Nat.mod_lt _ hO.1.1)
theorem trW_le (d : Dt) (x : Nat) : ∀ t, trW d x t ≤ t
  | 0 => Nat.le_refl _
  | t + 1 => by
    have := trW_le d x t
    unfold trW
    split <;> omega
theorem trM_le {d : Dt} (hO : OkD d) (x : Nat) : ∀ t, trM d x t ≤ 64
  | 0 => Nat.zero_le _
  | t + 1 => by
    have h8 := hO.1.2.2.1
    have h1 := trM_le hO x t
    have h2 := ntX_le d (trS d x (t + 1)) (dg d) (db d) 0
    unfold trM
    split <;> omega
theorem draw_n {σ : Sg} {x t : Nat} (hx : x ≤ 9999) (ht : t < 20) : Cal 69 [vI x, vI t] σ = some (vI ((drw x t : Nat) : Int), σ) := by
  have e0 : Cal 69 [vI x, vI t] σ = _ := q69_0 (x : Int) (t : Int) σ
  have hs : 7919 * x + 6151 * t + 1 ≤ 79300000 := by omega
  have hm : (7919 * x + 6151 * t + 1) * (7919 * x + 6151 * t + 1) ≤ 79300000 * 79300000 := Nat.mul_le_mul hs hs
  have e1 : ((7919 * (x : Int) + 6151 * (t : Int)) + 1) * ((7919 * (x : Int) + 6151 * (t : Int)) + 1) = (((7919 * x + 6151 * t + 1) * (7919 * x + 6151 * t + 1) : Nat) : Int) := by
    rw [Int.natCast_mul]
    rfl
  have e2 := lrm_n ((7919 * x + 6151 * t + 1) * (7919 * x + 6151 * t + 1)) 65521 (by omega) (by decide)
  have e3 := ldv_n ((7919 * x + 6151 * t + 1) * (7919 * x + 6151 * t + 1) % 65521) 4 (by omega) (by decide)
  rw [wr_id (x := (x : Int)) (by omega) (by omega), wr_id (x := (t : Int)) (by omega) (by omega), if_neg (by decide), if_neg (by decide), e1] at e0
  have e2' : lrm (((7919 * x + 6151 * t + 1) * (7919 * x + 6151 * t + 1) : Nat) : Int) 65521 = _ := e2
  rw [e2'] at e0
  have e3' : ldv (((7919 * x + 6151 * t + 1) * (7919 * x + 6151 * t + 1) % 65521 : Nat) : Int) 4 = _ := e3
  rw [e3'] at e0
  exact e0
