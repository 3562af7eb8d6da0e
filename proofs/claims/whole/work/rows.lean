section
/-! AN ABSTRACT MACHINE: cells by place, ints as integers read modulo 2^32; a step of the code is a function -/
abbrev Sg : Type := Nat → Nat → Int
abbrev AV : Type := Int ⊕ (Nat ⊕ (Int ⊕ Unit))
abbrev Res : Type := Option (AV × Sg)
abbrev vI (x : Int) : AV := .inl x
abbrev vR (p : Nat) : AV := .inr (.inl p)
abbrev vL (x : Int) : AV := .inr (.inr (.inl x))
abbrev vJ : AV := .inr (.inr (.inr ()))
abbrev Cl : Type := Nat → List AV → Sg → Res
abbrev Kn : Type := Nat → List AV → List AV → Sg → Res
abbrev Step : Type := Cl → Kn → Nat → List AV → List AV → Sg → Res
def wr (x : Int) : Int := (Int32.ofInt x).toInt
def wl (x : Int) : Int := (Int64.ofInt x).toInt
def up (σ : Sg) (p i : Nat) (x : Int) : Sg := fun q j => if q = p ∧ j = i then x else σ q j
def cpy (σ : Sg) (p sp q dp n : Nat) : Sg := fun a j => if a = q ∧ dp ≤ j ∧ j < dp + n then σ p (sp + (j - dp)) else σ a j
def ban (x y : Int) : Int := (Int32.ofInt x &&& Int32.ofInt y).toInt
def bor (x y : Int) : Int := (Int32.ofInt x ||| Int32.ofInt y).toInt
def bxo (x y : Int) : Int := (Int32.ofInt x ^^^ Int32.ofInt y).toInt
def bsl (x y : Int) : Int := (Int32.ofInt x <<< (Int32.ofInt y &&& 31)).toInt
def bsr (x y : Int) : Int := (Int32.ofInt x >>> (Int32.ofInt y &&& 31)).toInt
def bus (x y : Int) : Int := (((Int32.ofInt x).toUInt32 >>> ((Int32.ofInt y).toUInt32 &&& Int32.toUInt32 31)).toInt32).toInt
def idv (x y : Int) : Int := (Int32.ofInt x / Int32.ofInt y).toInt
def irm (x y : Int) : Int := (Int32.ofInt x - Int32.ofInt x / Int32.ofInt y * Int32.ofInt y).toInt
def ldv (x y : Int) : Int := (Int64.ofInt x / Int64.ofInt y).toInt
def lrm (x y : Int) : Int := (Int64.ofInt x - Int64.ofInt x / Int64.ofInt y * Int64.ofInt y).toInt
-- THE LAYOUT: kd: 0..5 an object of that number, 10 ints, 11 chars, 12 rows of ints; 97 the text, 98: the script's length, 99: the script
-- 0:oboe 1:oboe.sitting 2:oboe.trial 3:oboe.latest 4:oboe.heardWho 5:oboe.heardBar 6:oboe.heardPlayed 7:oboe.keptSitting 8:oboe.keptSitting[0] 9:oboe.keptSitting[1] 10:oboe.keptBribed 11:oboe.reader 12:oboe.reader.letters 13:oboe.reader.numbers 14:oboe.reader.draft 15:oboe.reader.draft.kind 16:oboe.reader.draft.minds 17:oboe.reader.draft.price 18:oboe.reader.draft.asks 19:oboe.reader.draft.toldToSit 20:oboe.band 21:oboe.band.kind 22:oboe.band.minds 23:oboe.band.price 24:oboe.band.asks 25:oboe.band.toldToSit 26:oboe.now 27:oboe.now.beside 28:oboe.now.played 29:oboe.survey 30:oboe.survey.bestSitting 31:oboe.survey.seatingsBySounded 32:oboe.survey.trial 33:oboe.survey.seatNow 34:oboe.survey.there 35:oboe.survey.there.beside 36:oboe.survey.there.played 37:oboe.other 38:oboe.other.beside 39:oboe.other.played 40:model 41:model.text 42:model.told 43:model.draft 44:model.s 45:model.past 46:model.images 47:model.heard 48:model.sat 49:model.beside 50:model.kinds 51:model.played 52:model.heardNow
def kdL : List Nat := [4, 10, 10, 10, 10, 10, 10, 12, 10, 10, 10, 2, 11, 10, 0, 10, 10, 10, 10, 10, 0, 10, 10, 10, 10, 10, 1, 10, 10, 3, 10, 10, 10, 10, 1, 10, 10, 1, 10, 10, 5, 10, 10, 10, 10, 10, 10, 10, 10, 10, 10, 10, 10]
def lnL : List Nat := [17, 7, 7, 8, 8, 8, 8, 2, 7, 7, 2, 4, 200, 3, 9, 7, 7, 7, 8, 7, 9, 7, 7, 7, 8, 7, 4, 7, 8, 11, 7, 57, 7, 7, 4, 7, 8, 4, 7, 8, 21, 200, 40, 40, 8, 64, 16, 8, 7, 7, 7, 8, 8]
def kd (p : Nat) : Nat := kdL.getD p 99
def ln (p : Nat) : Nat := lnL.getD p 0
def nP : Nat := 53
/-- where the reference fields of a cell lead -/
def lkL : List (List Nat) := [[11, 20, 1, 0, 26, 29, 2, 37, 3, 0, 4, 5, 6, 0, 7, 10, 0], [], [], [], [], [], [], [8, 9], [], [], [], [14, 0, 12, 13], [], [], [15, 16, 17, 0, 18, 0, 19, 0, 0], [], [], [], [], [], [21, 22, 23, 0, 24, 0, 25, 0, 0], [], [], [], [], [], [27, 28, 0, 0], [], [], [0, 0, 0, 0, 0, 0, 30, 31, 32, 33, 34], [], [], [], [], [35, 36, 0, 0], [], [], [38, 39, 0, 0], [], [], [41, 0, 42, 43, 44, 45, 0, 46, 0, 47, 0, 0, 48, 49, 50, 51, 0, 0, 0, 0, 52], [], [], [], [], [], [], [], [], [], [], [], []]
def lk (p k : Nat) : Nat := (lkL.getD p []).getD k 0
def strL : List Int := [105, 48, 44, 48, 44, 50, 59, 105, 49, 44, 50, 44, 53, 59, 105, 50, 44, 48, 44, 51, 59, 105, 51, 44, 51, 44, 52, 59, 105, 49, 44, 48, 44, 54, 59, 98, 49, 53, 44, 49, 59, 98, 53, 44, 49, 59, 98, 49, 52, 44, 48, 59, 98, 49, 49, 44, 49, 59, 115, 50, 59, 115, 48, 59, 103, 50, 59]
def s_ldstr : Step := fun _ K pc ls st σ => K (pc + 2) ls (vR 97 :: st) σ
def s_strlen : Step := fun _ K pc ls st σ => match st with
  | .inr (.inl p) :: st' => if p = 97 then K (pc + 3) ls (vI 67 :: st') σ else none
  | _ => none
def s_strch : Step := fun _ K pc ls st σ => match st with
  | .inl i :: .inr (.inl p) :: st' => if p = 97 then (if 0 ≤ wr i ∧ wr i < 67 then K (pc + 3) ls (vI (strL.getD (wr i).toNat 0) :: st') σ else none) else none
  | _ => none
-- STEPS
def s_push (a : Int) (n : Nat) : Step := fun _ K pc ls st σ => K (pc + n) ls (vI a :: st) σ
def s_iload (k n : Nat) : Step := fun _ K pc ls st σ => match ls[k]? with
  | some (.inl x) => K (pc + n) ls (vI x :: st) σ
  | _ => none
def s_aload (k n : Nat) : Step := fun _ K pc ls st σ => match ls[k]? with
  | some (.inr (.inl x)) => K (pc + n) ls (vR x :: st) σ
  | _ => none
def s_lload (k n : Nat) : Step := fun _ K pc ls st σ => match ls[k]? with
  | some (.inr (.inr (.inl x))) => K (pc + n) ls (vL x :: st) σ
  | _ => none
def s_istore (k n : Nat) : Step := fun _ K pc ls st σ => match st with
  | .inl x :: st' => K (pc + n) (ls.set k (vI x)) st' σ
  | _ => none
def s_astore (k n : Nat) : Step := fun _ K pc ls st σ => match st with
  | .inr (.inl x) :: st' => K (pc + n) (ls.set k (vR x)) st' σ
  | _ => none
def s_lstore (k n : Nat) : Step := fun _ K pc ls st σ => match st with
  | .inr (.inr (.inl x)) :: st' => K (pc + n) ((ls.set k (vL x)).set (k + 1) vJ) st' σ
  | _ => none
def s_iinc (k : Nat) (a : Int) : Step := fun _ K pc ls st σ => match ls[k]? with
  | some (.inl x) => K (pc + 3) (ls.set k (vI (x + a))) st σ
  | _ => none
def s_bin (f : Int → Int → Int) : Step := fun _ K pc ls st σ => match st with
  | .inl y :: .inl x :: st' => K (pc + 1) ls (vI (f x y) :: st') σ
  | _ => none
def s_dvd (f : Int → Int → Int) : Step := fun _ K pc ls st σ => match st with
  | .inl y :: .inl x :: st' => if wr y = 0 then none else K (pc + 1) ls (vI (f x y) :: st') σ
  | _ => none
def s_getI (c k : Nat) : Step := fun _ K pc ls st σ => match st with
  | .inr (.inl p) :: st' => if kd p = c then K (pc + 3) ls (vI (σ p k) :: st') σ else none
  | _ => none
def s_getR (c k : Nat) : Step := fun _ K pc ls st σ => match st with
  | .inr (.inl p) :: st' => if kd p = c then K (pc + 3) ls (vR (lk p k) :: st') σ else none
  | _ => none
def s_putI (c k : Nat) : Step := fun _ K pc ls st σ => match st with
  | .inl x :: .inr (.inl p) :: st' => if kd p = c then K (pc + 3) ls st' (up σ p k x) else none
  | _ => none
def s_putZ (c k : Nat) : Step := fun _ K pc ls st σ => match st with
  | .inl x :: .inr (.inl p) :: st' => if kd p = c then (if x = 0 ∨ x = 1 then K (pc + 3) ls st' (up σ p k x) else none) else none
  | _ => none
def s_iald : Step := fun _ K pc ls st σ => match st with
  | .inl i :: .inr (.inl p) :: st' => if kd p = 10 then (if 0 ≤ wr i ∧ wr i < ln p then K (pc + 1) ls (vI (σ p (wr i).toNat) :: st') σ else none) else none
  | _ => none
def s_cald : Step := fun _ K pc ls st σ => match st with
  | .inl i :: .inr (.inl p) :: st' => if kd p = 11 then (if 0 ≤ wr i ∧ wr i < ln p then K (pc + 1) ls (vI (σ p (wr i).toNat) :: st') σ else none) else none
  | _ => none
def s_aald : Step := fun _ K pc ls st σ => match st with
  | .inl i :: .inr (.inl p) :: st' => if kd p = 12 then (if 0 ≤ wr i ∧ wr i < ln p then K (pc + 1) ls (vR (lk p (wr i).toNat) :: st') σ else none) else none
  | _ => none
def s_iast : Step := fun _ K pc ls st σ => match st with
  | .inl x :: .inl i :: .inr (.inl p) :: st' => if kd p = 10 then (if 0 ≤ wr i ∧ wr i < ln p then K (pc + 1) ls st' (up σ p (wr i).toNat x) else none) else none
  | _ => none
def s_cast : Step := fun _ K pc ls st σ => match st with
  | .inl x :: .inl i :: .inr (.inl p) :: st' => if kd p = 11 then (if (0 ≤ wr i ∧ wr i < ln p) ∧ 0 ≤ x ∧ x < 65536 then K (pc + 1) ls st' (up σ p (wr i).toNat x) else none) else none
  | _ => none
def s_alen : Step := fun _ K pc ls st σ => match st with
  | .inr (.inl p) :: st' => if 10 ≤ kd p ∧ kd p < 13 then K (pc + 1) ls (vI (ln p) :: st') σ else none
  | _ => none
def s_slen : Step := fun _ K pc ls st σ => match st with
  | .inr (.inl p) :: st' => if p = 99 then K (pc + 1) ls (vI (σ 98 0) :: st') σ else none
  | _ => none
def s_sald : Step := fun _ K pc ls st σ => match st with
  | .inl i :: .inr (.inl p) :: st' => if p = 99 then (if 0 ≤ wr i ∧ wr i < σ 98 0 then K (pc + 1) ls (vI (σ 99 (wr i).toNat) :: st') σ else none) else none
  | _ => none
def s_ifeq (t : Nat) : Step := fun _ K pc ls st σ => match st with
  | .inl x :: st' => if wr x = 0 then K t ls st' σ else K (pc + 3) ls st' σ
  | _ => none
def s_ifne (t : Nat) : Step := fun _ K pc ls st σ => match st with
  | .inl x :: st' => if wr x = 0 then K (pc + 3) ls st' σ else K t ls st' σ
  | _ => none
def s_iflt (t : Nat) : Step := fun _ K pc ls st σ => match st with
  | .inl x :: st' => if wr x < 0 then K t ls st' σ else K (pc + 3) ls st' σ
  | _ => none
def s_ifge (t : Nat) : Step := fun _ K pc ls st σ => match st with
  | .inl x :: st' => if wr x < 0 then K (pc + 3) ls st' σ else K t ls st' σ
  | _ => none
def s_ifgt (t : Nat) : Step := fun _ K pc ls st σ => match st with
  | .inl x :: st' => if 0 < wr x then K t ls st' σ else K (pc + 3) ls st' σ
  | _ => none
def s_ifle (t : Nat) : Step := fun _ K pc ls st σ => match st with
  | .inl x :: st' => if 0 < wr x then K (pc + 3) ls st' σ else K t ls st' σ
  | _ => none
def s_iceq (t : Nat) : Step := fun _ K pc ls st σ => match st with
  | .inl y :: .inl x :: st' => if wr x = wr y then K t ls st' σ else K (pc + 3) ls st' σ
  | _ => none
def s_icne (t : Nat) : Step := fun _ K pc ls st σ => match st with
  | .inl y :: .inl x :: st' => if wr x = wr y then K (pc + 3) ls st' σ else K t ls st' σ
  | _ => none
def s_iclt (t : Nat) : Step := fun _ K pc ls st σ => match st with
  | .inl y :: .inl x :: st' => if wr x < wr y then K t ls st' σ else K (pc + 3) ls st' σ
  | _ => none
def s_icge (t : Nat) : Step := fun _ K pc ls st σ => match st with
  | .inl y :: .inl x :: st' => if wr x < wr y then K (pc + 3) ls st' σ else K t ls st' σ
  | _ => none
def s_icgt (t : Nat) : Step := fun _ K pc ls st σ => match st with
  | .inl y :: .inl x :: st' => if wr y < wr x then K t ls st' σ else K (pc + 3) ls st' σ
  | _ => none
def s_icle (t : Nat) : Step := fun _ K pc ls st σ => match st with
  | .inl y :: .inl x :: st' => if wr y < wr x then K (pc + 3) ls st' σ else K t ls st' σ
  | _ => none
def s_goto (t : Nat) : Step := fun _ K _ ls st σ => K t ls st σ
def s_dup : Step := fun _ K pc ls st σ => match st with
  | .inl x :: st' => K (pc + 1) ls (vI x :: vI x :: st') σ
  | .inr (.inl x) :: st' => K (pc + 1) ls (vR x :: vR x :: st') σ
  | _ => none
def s_dup2 : Step := fun _ K pc ls st σ => match st with
  | .inl i :: .inr (.inl p) :: st' => K (pc + 1) ls (vI i :: vR p :: vI i :: vR p :: st') σ
  | _ => none
def s_pop : Step := fun _ K pc ls st σ => match st with
  | .inl _ :: st' => K (pc + 1) ls st' σ
  | _ => none
def swk (K : Nat → Res) (d : Nat) (x : Int) : List (Int × Nat) → Res
  | [] => K d
  | q :: r => if x = q.1 then K q.2 else swk K d x r
def s_switch (tb : List (Int × Nat)) (d : Nat) : Step := fun _ K _ ls st σ => match st with
  | .inl x :: st' => swk (fun t => K t ls st' σ) d (wr x) tb
  | _ => none
def kcI (r : Res) (k : Int → Sg → Res) : Res := match r with
  | some (.inl x, s) => k x s
  | _ => none
def kcR (p0 : Nat) (r : Res) (k : Sg → Res) : Res := match r with
  | some (.inr (.inl x), s) => if x = p0 then k s else none
  | _ => none
def kcV (r : Res) (k : Sg → Res) : Res := match r with
  | some (_, s) => k s
  | _ => none
/-- an int or a reference -/
def gA : AV → Bool
  | .inl _ => true
  | .inr (.inl _) => true
  | _ => false
def s_scallI (m n : Nat) : Step := fun C K pc ls st σ => if (st.drop n).length ≤ 4 ∧ n ≤ st.length ∧ (st.take n).all gA = true then kcI (C m (st.take n).reverse σ) (fun x σ' => K (pc + 3) ls (vI x :: st.drop n) σ') else none
/-- the answer is the cell p0 -/
def s_scallR (p0 m n : Nat) : Step := fun C K pc ls st σ => if (st.drop n).length ≤ 4 ∧ n ≤ st.length ∧ (st.take n).all gA = true then kcR p0 (C m (st.take n).reverse σ) (fun σ' => K (pc + 3) ls (vR p0 :: st.drop n) σ') else none
def s_scallV (m n : Nat) : Step := fun C K pc ls st σ => if (st.drop n).length ≤ 4 ∧ n ≤ st.length ∧ (st.take n).all gA = true then kcV (C m (st.take n).reverse σ) (fun σ' => K (pc + 3) ls (st.drop n) σ') else none
/-- a call on an object: n arguments above it -/
def s_call (c n : Nat) (f : Step) : Step := fun C K pc ls st σ => match st[n]? with
  | some (.inr (.inl p)) => if kd p = c then f C K pc ls st σ else none
  | _ => none
def s_iret : Step := fun _ _ _ _ st σ => match st with
  | [.inl x] => some (vI x, σ)
  | _ => none
def s_zret : Step := fun _ _ _ _ st σ => match st with
  | [.inl x] => if x = 0 ∨ x = 1 then some (vI x, σ) else none
  | _ => none
def s_cret : Step := fun _ _ _ _ st σ => match st with
  | [.inl x] => if 0 ≤ x ∧ x < 65536 then some (vI x, σ) else none
  | _ => none
def s_aret : Step := fun _ _ _ _ st σ => match st with
  | [.inr (.inl p)] => some (vR p, σ)
  | _ => none
def s_vret : Step := fun _ _ _ _ st σ => match st with
  | [] => some (vI 0, σ)
  | _ => none
def s_lpush (a : Int) (n : Nat) : Step := fun _ K pc ls st σ => K (pc + n) ls (vL a :: st) σ
def s_lbin (f : Int → Int → Int) : Step := fun _ K pc ls st σ => match st with
  | .inr (.inr (.inl y)) :: .inr (.inr (.inl x)) :: st' => K (pc + 1) ls (vL (f x y) :: st') σ
  | _ => none
def s_ldvd (f : Int → Int → Int) : Step := fun _ K pc ls st σ => match st with
  | .inr (.inr (.inl y)) :: .inr (.inr (.inl x)) :: st' => if wl y = 0 then none else K (pc + 1) ls (vL (f x y) :: st') σ
  | _ => none
def s_i2l : Step := fun _ K pc ls st σ => match st with
  | .inl x :: st' => K (pc + 1) ls (vL (wr x) :: st') σ
  | _ => none
def s_l2i : Step := fun _ K pc ls st σ => match st with
  | .inr (.inr (.inl x)) :: st' => K (pc + 1) ls (vI x :: st') σ
  | _ => none
def s_i2c : Step := fun _ K pc ls st σ => match st with
  | .inl x :: st' => K (pc + 1) ls (vI (x % 65536) :: st') σ
  | _ => none
def s_copy : Step := fun _ K pc ls st σ => match st with
  | .inl n :: .inl dp :: .inr (.inl q) :: .inl sp :: .inr (.inl p) :: st' => if kd p = 10 ∧ kd q = 10 ∧ st'.length ≤ 4 then
      (if 0 ≤ wr sp ∧ 0 ≤ wr dp ∧ 0 ≤ wr n ∧ wr sp + wr n ≤ ln p ∧ wr dp + wr n ≤ ln q then K (pc + 3) ls st' (cpy σ p (wr sp).toNat q (wr dp).toNat (wr n).toNat) else none) else none
  | _ => none
def s_max : Step := fun _ K pc ls st σ => match st with
  | .inl y :: .inl x :: st' => if st'.length ≤ 4 then K (pc + 3) ls (vI (if wr x < wr y then y else x) :: st') σ else none
  | _ => none
def s_min : Step := fun _ K pc ls st σ => match st with
  | .inl y :: .inl x :: st' => if st'.length ≤ 4 then K (pc + 3) ls (vI (if wr y < wr x then y else x) :: st') σ else none
  | _ => none
def s_no : Step := fun _ _ _ _ _ _ => none
-- THE RUN
def ent (nL : Nat) (as : List AV) : List AV := as ++ List.replicate (nL - as.length) vJ
section RUN
variable (cd : Nat → List Step) (nl : Nat → Nat)
def arun : Nat → Nat → Nat → List AV → List AV → Sg → Res
  | 0, _, _, _, _, _ => none
  | n + 1, m, pc, ls, st, σ => match (cd m)[pc]? with
    | none => none
    | some f => f (fun m' as σ' => arun n m' 0 (ent (nl m') as) [] σ') (fun pc' ls' st' σ' => arun n m pc' ls' st' σ') pc ls st σ
end RUN
abbrev FormAt (f : Step) (pc : Nat) (ls st : List AV) (σ : Sg) : Prop :=
  (∃ r : Res, (∀ C K, f C K pc ls st σ = r) ∧ ∀ q, r = some q → ∀ j i, nP ≤ j → q.2 j i = σ j i) ∨
  (∃ (pc' : Nat) (ls' st' : List AV) (σ' : Sg), (∀ C K, f C K pc ls st σ = K pc' ls' st' σ') ∧ ∀ j i, nP ≤ j → σ' j i = σ j i) ∨
  (∃ (m : Nat) (as : List AV) (g : AV × Sg → Option (Nat × List AV × List AV × Sg)), (∀ (C : Cl) (K : Kn), f C K pc ls st σ = match C m as σ with
    | none => none
    | some r => match g r with
      | none => none
      | some q => K q.1 q.2.1 q.2.2.1 q.2.2.2) ∧ ∀ r q, g r = some q → q.2.2.2 = r.2)
/-- what a step can be: an end, a going on, a call and a going on; what lies beyond the cells stays -/
def Form (f : Step) : Prop := ∀ (pc : Nat) (ls st : List AV) (σ : Sg), FormAt f pc ls st σ
theorem fm_n {f : Step} {pc : Nat} {ls st : List AV} {σ : Sg} {r : Res} (h : ∀ C K, f C K pc ls st σ = r) (hq : ∀ q, r = some q → ∀ j i, nP ≤ j → q.2 j i = σ j i := by first | (intro q hq; cases hq; done) | (intro q hq j i _; cases hq; rfl)) : FormAt f pc ls st σ := Or.inl ⟨r, h, hq⟩
theorem fm_k {f : Step} {pc : Nat} {ls st : List AV} {σ : Sg} {pc' : Nat} {ls' st' : List AV} {σ' : Sg} (h : ∀ C K, f C K pc ls st σ = K pc' ls' st' σ') (hq : ∀ j i, nP ≤ j → σ' j i = σ j i := by intros; rfl) : FormAt f pc ls st σ := Or.inr (Or.inl ⟨pc', ls', st', σ', h, hq⟩)
theorem kd_lt {p c : Nat} (h : kd p = c) (hc : c < 99) : p < nP := by
  rcases Nat.lt_or_ge p nP with q | q
  · exact q
  · have : kd p = 99 := by unfold kd; rw [List.getD_eq_getElem?_getD, List.getElem?_eq_none (show kdL.length ≤ p from q)]; rfl
    omega
theorem up_ne {σ : Sg} {p k q : Nat} {x : Int} (h : q ≠ p) : up σ p k x q = σ q := by
  funext j
  exact if_neg (fun z => h z.1)
theorem cpy_ne {σ : Sg} {p sp a dp n q : Nat} (h : q ≠ a) : cpy σ p sp a dp n q = σ q := by
  funext j
  exact if_neg (fun z => h z.1)
theorem up_hi {σ : Sg} {p k : Nat} {x : Int} (h : p < nP) : ∀ j i, nP ≤ j → up σ p k x j i = σ j i := fun j i hj => by rw [up_ne (by omega)]
theorem cpy_hi {σ : Sg} {p sp a dp n : Nat} (h : a < nP) : ∀ j i, nP ≤ j → cpy σ p sp a dp n j i = σ j i := fun j i hj => by rw [cpy_ne (by omega)]
theorem fm_push (a : Int) (n : Nat) : Form (s_push a n) := fun _ _ _ _ => fm_k fun _ _ => rfl
theorem fm_lpush (a : Int) (n : Nat) : Form (s_lpush a n) := fun _ _ _ _ => fm_k fun _ _ => rfl
theorem fm_goto (t : Nat) : Form (s_goto t) := fun _ _ _ _ => fm_k fun _ _ => rfl
theorem fm_no : Form s_no := fun _ _ _ _ => fm_n fun _ _ => rfl
theorem fm_iload (k n : Nat) : Form (s_iload k n) := by
  intro pc ls st σ
  cases h : ls[k]? with
  | none => exact fm_n (r := none) (fun C K => by simp only [s_iload, h])
  | some v =>
    rcases v with x | x | x | x
    · exact fm_k (pc' := pc + n) (ls' := ls) (st' := vI x :: st) (σ' := σ) (fun C K => by simp only [s_iload, h])
    · exact fm_n (r := none) (fun C K => by simp only [s_iload, h])
    · exact fm_n (r := none) (fun C K => by simp only [s_iload, h])
    · exact fm_n (r := none) (fun C K => by simp only [s_iload, h])
theorem fm_aload (k n : Nat) : Form (s_aload k n) := by
  intro pc ls st σ
  cases h : ls[k]? with
  | none => exact fm_n (r := none) (fun C K => by simp only [s_aload, h])
  | some v =>
    rcases v with x | x | x | x
    · exact fm_n (r := none) (fun C K => by simp only [s_aload, h])
    · exact fm_k (pc' := pc + n) (ls' := ls) (st' := vR x :: st) (σ' := σ) (fun C K => by simp only [s_aload, h])
    · exact fm_n (r := none) (fun C K => by simp only [s_aload, h])
    · exact fm_n (r := none) (fun C K => by simp only [s_aload, h])
theorem fm_lload (k n : Nat) : Form (s_lload k n) := by
  intro pc ls st σ
  cases h : ls[k]? with
  | none => exact fm_n (r := none) (fun C K => by simp only [s_lload, h])
  | some v =>
    rcases v with x | x | x | x
    · exact fm_n (r := none) (fun C K => by simp only [s_lload, h])
    · exact fm_n (r := none) (fun C K => by simp only [s_lload, h])
    · exact fm_k (pc' := pc + n) (ls' := ls) (st' := vL x :: st) (σ' := σ) (fun C K => by simp only [s_lload, h])
    · exact fm_n (r := none) (fun C K => by simp only [s_lload, h])
theorem fm_iinc (k : Nat) (a : Int) : Form (s_iinc k a) := by
  intro pc ls st σ
  cases h : ls[k]? with
  | none => exact fm_n (r := none) (fun C K => by simp only [s_iinc, h])
  | some v =>
    rcases v with x | x | x | x
    · exact fm_k (pc' := pc + 3) (ls' := ls.set k (vI (x + a))) (st' := st) (σ' := σ) (fun C K => by simp only [s_iinc, h])
    · exact fm_n (r := none) (fun C K => by simp only [s_iinc, h])
    · exact fm_n (r := none) (fun C K => by simp only [s_iinc, h])
    · exact fm_n (r := none) (fun C K => by simp only [s_iinc, h])
theorem fm_if {c : Prop} [Decidable c] {f g h : Step} {pc : Nat} {ls st : List AV} {σ : Sg} (hf : ∀ C K, f C K pc ls st σ = if c then g C K pc ls st σ else h C K pc ls st σ) (hg : c → FormAt g pc ls st σ) (hh : FormAt h pc ls st σ) : FormAt f pc ls st σ := by
  by_cases q : c
  · simp only [FormAt, hf, if_pos q]
    exact hg q
  · simp only [FormAt, hf, if_neg q]
    exact hh
theorem fm_noAt {pc : Nat} {ls st : List AV} {σ : Sg} : FormAt s_no pc ls st σ := fm_n (r := none) fun _ _ => rfl
theorem fm_kAt {pc a : Nat} {ls st b d : List AV} {σ : Sg} : FormAt (fun _ K _ _ _ σ => K a b d σ) pc ls st σ := fm_k fun _ _ => rfl
theorem fm_wAt {pc a : Nat} {ls st b d : List AV} {σ e : Sg} (h : ∀ j i, nP ≤ j → e j i = σ j i) : FormAt (fun _ K _ _ _ _ => K a b d e) pc ls st σ := fm_k (fun _ _ => rfl) h
theorem fm_istore (k n : Nat) : Form (s_istore k n) := by
  intro pc ls st σ
  rcases st with _ | ⟨x0 | x0 | x0 | x0, st⟩
  all_goals first | exact fm_n (r := none) (fun _ _ => rfl) | exact fm_k (fun _ _ => rfl)
theorem fm_astore (k n : Nat) : Form (s_astore k n) := by
  intro pc ls st σ
  rcases st with _ | ⟨x0 | x0 | x0 | x0, st⟩
  all_goals first | exact fm_n (r := none) (fun _ _ => rfl) | exact fm_k (fun _ _ => rfl)
theorem fm_lstore (k n : Nat) : Form (s_lstore k n) := by
  intro pc ls st σ
  rcases st with _ | ⟨x0 | x0 | x0 | x0, st⟩
  all_goals first | exact fm_n (r := none) (fun _ _ => rfl) | exact fm_k (fun _ _ => rfl)
theorem fm_bin (f : Int → Int → Int) : Form (s_bin f) := by
  intro pc ls st σ
  rcases st with _ | ⟨x0 | x0 | x0 | x0, _ | ⟨x1 | x1 | x1 | x1, st⟩⟩
  all_goals first | exact fm_n (r := none) (fun _ _ => rfl) | exact fm_k (fun _ _ => rfl)
theorem fm_dup  : Form (s_dup) := by
  intro pc ls st σ
  rcases st with _ | ⟨x0 | x0 | x0 | x0, st⟩
  all_goals first | exact fm_n (r := none) (fun _ _ => rfl) | exact fm_k (fun _ _ => rfl)
theorem fm_dup2  : Form (s_dup2) := by
  intro pc ls st σ
  rcases st with _ | ⟨x0 | x0 | x0 | x0, _ | ⟨x1 | x1 | x1 | x1, st⟩⟩
  all_goals first | exact fm_n (r := none) (fun _ _ => rfl) | exact fm_k (fun _ _ => rfl)
theorem fm_pop  : Form (s_pop) := by
  intro pc ls st σ
  rcases st with _ | ⟨x0 | x0 | x0 | x0, st⟩
  all_goals first | exact fm_n (r := none) (fun _ _ => rfl) | exact fm_k (fun _ _ => rfl)
theorem fm_lbin (f : Int → Int → Int) : Form (s_lbin f) := by
  intro pc ls st σ
  rcases st with _ | ⟨x0 | x0 | x0 | x0, _ | ⟨x1 | x1 | x1 | x1, st⟩⟩
  all_goals first | exact fm_n (r := none) (fun _ _ => rfl) | exact fm_k (fun _ _ => rfl)
theorem fm_i2l  : Form (s_i2l) := by
  intro pc ls st σ
  rcases st with _ | ⟨x0 | x0 | x0 | x0, st⟩
  all_goals first | exact fm_n (r := none) (fun _ _ => rfl) | exact fm_k (fun _ _ => rfl)
theorem fm_l2i  : Form (s_l2i) := by
  intro pc ls st σ
  rcases st with _ | ⟨x0 | x0 | x0 | x0, st⟩
  all_goals first | exact fm_n (r := none) (fun _ _ => rfl) | exact fm_k (fun _ _ => rfl)
theorem fm_i2c  : Form (s_i2c) := by
  intro pc ls st σ
  rcases st with _ | ⟨x0 | x0 | x0 | x0, st⟩
  all_goals first | exact fm_n (r := none) (fun _ _ => rfl) | exact fm_k (fun _ _ => rfl)
theorem fm_ifeq (t : Nat) : Form (s_ifeq t) := by
  intro pc ls st σ
  rcases st with _ | ⟨x0 | x0 | x0 | x0, st⟩
  all_goals first | exact fm_n (r := none) (fun _ _ => rfl) | exact fm_k (fun _ _ => rfl) | exact fm_if (fun _ _ => rfl) (fun _ => fm_kAt) fm_kAt
theorem fm_ifne (t : Nat) : Form (s_ifne t) := by
  intro pc ls st σ
  rcases st with _ | ⟨x0 | x0 | x0 | x0, st⟩
  all_goals first | exact fm_n (r := none) (fun _ _ => rfl) | exact fm_k (fun _ _ => rfl) | exact fm_if (fun _ _ => rfl) (fun _ => fm_kAt) fm_kAt
theorem fm_iflt (t : Nat) : Form (s_iflt t) := by
  intro pc ls st σ
  rcases st with _ | ⟨x0 | x0 | x0 | x0, st⟩
  all_goals first | exact fm_n (r := none) (fun _ _ => rfl) | exact fm_k (fun _ _ => rfl) | exact fm_if (fun _ _ => rfl) (fun _ => fm_kAt) fm_kAt
theorem fm_ifge (t : Nat) : Form (s_ifge t) := by
  intro pc ls st σ
  rcases st with _ | ⟨x0 | x0 | x0 | x0, st⟩
  all_goals first | exact fm_n (r := none) (fun _ _ => rfl) | exact fm_k (fun _ _ => rfl) | exact fm_if (fun _ _ => rfl) (fun _ => fm_kAt) fm_kAt
theorem fm_ifgt (t : Nat) : Form (s_ifgt t) := by
  intro pc ls st σ
  rcases st with _ | ⟨x0 | x0 | x0 | x0, st⟩
  all_goals first | exact fm_n (r := none) (fun _ _ => rfl) | exact fm_k (fun _ _ => rfl) | exact fm_if (fun _ _ => rfl) (fun _ => fm_kAt) fm_kAt
theorem fm_ifle (t : Nat) : Form (s_ifle t) := by
  intro pc ls st σ
  rcases st with _ | ⟨x0 | x0 | x0 | x0, st⟩
  all_goals first | exact fm_n (r := none) (fun _ _ => rfl) | exact fm_k (fun _ _ => rfl) | exact fm_if (fun _ _ => rfl) (fun _ => fm_kAt) fm_kAt
theorem fm_iceq (t : Nat) : Form (s_iceq t) := by
  intro pc ls st σ
  rcases st with _ | ⟨x0 | x0 | x0 | x0, _ | ⟨x1 | x1 | x1 | x1, st⟩⟩
  all_goals first | exact fm_n (r := none) (fun _ _ => rfl) | exact fm_k (fun _ _ => rfl) | exact fm_if (fun _ _ => rfl) (fun _ => fm_kAt) fm_kAt
theorem fm_icne (t : Nat) : Form (s_icne t) := by
  intro pc ls st σ
  rcases st with _ | ⟨x0 | x0 | x0 | x0, _ | ⟨x1 | x1 | x1 | x1, st⟩⟩
  all_goals first | exact fm_n (r := none) (fun _ _ => rfl) | exact fm_k (fun _ _ => rfl) | exact fm_if (fun _ _ => rfl) (fun _ => fm_kAt) fm_kAt
theorem fm_iclt (t : Nat) : Form (s_iclt t) := by
  intro pc ls st σ
  rcases st with _ | ⟨x0 | x0 | x0 | x0, _ | ⟨x1 | x1 | x1 | x1, st⟩⟩
  all_goals first | exact fm_n (r := none) (fun _ _ => rfl) | exact fm_k (fun _ _ => rfl) | exact fm_if (fun _ _ => rfl) (fun _ => fm_kAt) fm_kAt
theorem fm_icge (t : Nat) : Form (s_icge t) := by
  intro pc ls st σ
  rcases st with _ | ⟨x0 | x0 | x0 | x0, _ | ⟨x1 | x1 | x1 | x1, st⟩⟩
  all_goals first | exact fm_n (r := none) (fun _ _ => rfl) | exact fm_k (fun _ _ => rfl) | exact fm_if (fun _ _ => rfl) (fun _ => fm_kAt) fm_kAt
theorem fm_icgt (t : Nat) : Form (s_icgt t) := by
  intro pc ls st σ
  rcases st with _ | ⟨x0 | x0 | x0 | x0, _ | ⟨x1 | x1 | x1 | x1, st⟩⟩
  all_goals first | exact fm_n (r := none) (fun _ _ => rfl) | exact fm_k (fun _ _ => rfl) | exact fm_if (fun _ _ => rfl) (fun _ => fm_kAt) fm_kAt
theorem fm_icle (t : Nat) : Form (s_icle t) := by
  intro pc ls st σ
  rcases st with _ | ⟨x0 | x0 | x0 | x0, _ | ⟨x1 | x1 | x1 | x1, st⟩⟩
  all_goals first | exact fm_n (r := none) (fun _ _ => rfl) | exact fm_k (fun _ _ => rfl) | exact fm_if (fun _ _ => rfl) (fun _ => fm_kAt) fm_kAt
theorem fm_dvd (f : Int → Int → Int) : Form (s_dvd f) := by
  intro pc ls st σ
  rcases st with _ | ⟨x0 | x0 | x0 | x0, _ | ⟨x1 | x1 | x1 | x1, st⟩⟩
  all_goals first | exact fm_n (r := none) (fun _ _ => rfl) | exact fm_k (fun _ _ => rfl) | exact fm_if (fun _ _ => rfl) (fun _ => fm_noAt) fm_kAt
theorem fm_ldvd (f : Int → Int → Int) : Form (s_ldvd f) := by
  intro pc ls st σ
  rcases st with _ | ⟨x0 | x0 | x0 | x0, _ | ⟨x1 | x1 | x1 | x1, st⟩⟩
  all_goals first | exact fm_n (r := none) (fun _ _ => rfl) | exact fm_k (fun _ _ => rfl) | exact fm_if (fun _ _ => rfl) (fun _ => fm_noAt) fm_kAt
theorem fm_getI (c k : Nat) : Form (s_getI c k) := by
  intro pc ls st σ
  rcases st with _ | ⟨x0 | x0 | x0 | x0, st⟩
  all_goals first | exact fm_n (r := none) (fun _ _ => rfl) | exact fm_k (fun _ _ => rfl) | exact fm_if (fun _ _ => rfl) (fun _ => fm_kAt) fm_noAt
theorem fm_getR (c k : Nat) : Form (s_getR c k) := by
  intro pc ls st σ
  rcases st with _ | ⟨x0 | x0 | x0 | x0, st⟩
  all_goals first | exact fm_n (r := none) (fun _ _ => rfl) | exact fm_k (fun _ _ => rfl) | exact fm_if (fun _ _ => rfl) (fun _ => fm_kAt) fm_noAt
theorem fm_putI (c k : Nat) (hc : c < 99) : Form (s_putI c k) := by
  intro pc ls st σ
  rcases st with _ | ⟨x0 | x0 | x0 | x0, _ | ⟨x1 | x1 | x1 | x1, st⟩⟩
  all_goals first | exact fm_n (r := none) (fun _ _ => rfl) | exact fm_k (fun _ _ => rfl) | exact fm_if (fun _ _ => rfl) (fun z => fm_wAt (up_hi (kd_lt z hc))) fm_noAt
theorem fm_alen  : Form (s_alen) := by
  intro pc ls st σ
  rcases st with _ | ⟨x0 | x0 | x0 | x0, st⟩
  all_goals first | exact fm_n (r := none) (fun _ _ => rfl) | exact fm_k (fun _ _ => rfl) | exact fm_if (fun _ _ => rfl) (fun _ => fm_kAt) fm_noAt
theorem fm_slen  : Form (s_slen) := by
  intro pc ls st σ
  rcases st with _ | ⟨x0 | x0 | x0 | x0, st⟩
  all_goals first | exact fm_n (r := none) (fun _ _ => rfl) | exact fm_k (fun _ _ => rfl) | exact fm_if (fun _ _ => rfl) (fun _ => fm_kAt) fm_noAt
theorem fm_max  : Form (s_max) := by
  intro pc ls st σ
  rcases st with _ | ⟨x0 | x0 | x0 | x0, _ | ⟨x1 | x1 | x1 | x1, st⟩⟩
  all_goals first | exact fm_n (r := none) (fun _ _ => rfl) | exact fm_k (fun _ _ => rfl) | exact fm_if (fun _ _ => rfl) (fun _ => fm_kAt) fm_noAt
theorem fm_min  : Form (s_min) := by
  intro pc ls st σ
  rcases st with _ | ⟨x0 | x0 | x0 | x0, _ | ⟨x1 | x1 | x1 | x1, st⟩⟩
  all_goals first | exact fm_n (r := none) (fun _ _ => rfl) | exact fm_k (fun _ _ => rfl) | exact fm_if (fun _ _ => rfl) (fun _ => fm_kAt) fm_noAt
theorem fm_putZ (c k : Nat) (hc : c < 99) : Form (s_putZ c k) := by
  intro pc ls st σ
  rcases st with _ | ⟨x0 | x0 | x0 | x0, _ | ⟨x1 | x1 | x1 | x1, st⟩⟩
  all_goals first | exact fm_n (r := none) (fun _ _ => rfl) | skip
  refine fm_if (c := kd x1 = c) (g := fun _ K pc ls _ σ => if x0 = 0 ∨ x0 = 1 then K (pc + 3) ls st (up σ x1 k x0) else none) (h := s_no) (fun _ _ => rfl) (fun z => fm_if (fun _ _ => rfl) (fun _ => fm_wAt (up_hi (kd_lt z hc))) fm_noAt) fm_noAt
theorem fm_iald  : Form (s_iald) := by
  intro pc ls st σ
  rcases st with _ | ⟨x0 | x0 | x0 | x0, _ | ⟨x1 | x1 | x1 | x1, st⟩⟩
  all_goals first | exact fm_n (r := none) (fun _ _ => rfl) | skip
  refine fm_if (c := kd x1 = 10) (g := fun _ K pc ls _ σ => if 0 ≤ wr x0 ∧ wr x0 < ln x1 then K (pc + 1) ls (vI (σ x1 (wr x0).toNat) :: st) σ else none) (h := s_no) (fun _ _ => rfl) (fun z => fm_if (fun _ _ => rfl) (fun _ => fm_kAt) fm_noAt) fm_noAt
theorem fm_cald  : Form (s_cald) := by
  intro pc ls st σ
  rcases st with _ | ⟨x0 | x0 | x0 | x0, _ | ⟨x1 | x1 | x1 | x1, st⟩⟩
  all_goals first | exact fm_n (r := none) (fun _ _ => rfl) | skip
  refine fm_if (c := kd x1 = 11) (g := fun _ K pc ls _ σ => if 0 ≤ wr x0 ∧ wr x0 < ln x1 then K (pc + 1) ls (vI (σ x1 (wr x0).toNat) :: st) σ else none) (h := s_no) (fun _ _ => rfl) (fun z => fm_if (fun _ _ => rfl) (fun _ => fm_kAt) fm_noAt) fm_noAt
theorem fm_aald  : Form (s_aald) := by
  intro pc ls st σ
  rcases st with _ | ⟨x0 | x0 | x0 | x0, _ | ⟨x1 | x1 | x1 | x1, st⟩⟩
  all_goals first | exact fm_n (r := none) (fun _ _ => rfl) | skip
  refine fm_if (c := kd x1 = 12) (g := fun _ K pc ls _ σ => if 0 ≤ wr x0 ∧ wr x0 < ln x1 then K (pc + 1) ls (vR (lk x1 (wr x0).toNat) :: st) σ else none) (h := s_no) (fun _ _ => rfl) (fun z => fm_if (fun _ _ => rfl) (fun _ => fm_kAt) fm_noAt) fm_noAt
theorem fm_iast  : Form (s_iast) := by
  intro pc ls st σ
  rcases st with _ | ⟨x0 | x0 | x0 | x0, _ | ⟨x1 | x1 | x1 | x1, _ | ⟨x2 | x2 | x2 | x2, st⟩⟩⟩
  all_goals first | exact fm_n (r := none) (fun _ _ => rfl) | skip
  refine fm_if (c := kd x2 = 10) (g := fun _ K pc ls _ σ => if 0 ≤ wr x1 ∧ wr x1 < ln x2 then K (pc + 1) ls st (up σ x2 (wr x1).toNat x0) else none) (h := s_no) (fun _ _ => rfl) (fun z => fm_if (fun _ _ => rfl) (fun _ => fm_wAt (up_hi (kd_lt z (by decide)))) fm_noAt) fm_noAt
theorem fm_cast  : Form (s_cast) := by
  intro pc ls st σ
  rcases st with _ | ⟨x0 | x0 | x0 | x0, _ | ⟨x1 | x1 | x1 | x1, _ | ⟨x2 | x2 | x2 | x2, st⟩⟩⟩
  all_goals first | exact fm_n (r := none) (fun _ _ => rfl) | skip
  refine fm_if (c := kd x2 = 11) (g := fun _ K pc ls _ σ => if (0 ≤ wr x1 ∧ wr x1 < ln x2) ∧ 0 ≤ x0 ∧ x0 < 65536 then K (pc + 1) ls st (up σ x2 (wr x1).toNat x0) else none) (h := s_no) (fun _ _ => rfl) (fun z => fm_if (fun _ _ => rfl) (fun _ => fm_wAt (up_hi (kd_lt z (by decide)))) fm_noAt) fm_noAt
theorem fm_sald  : Form (s_sald) := by
  intro pc ls st σ
  rcases st with _ | ⟨x0 | x0 | x0 | x0, _ | ⟨x1 | x1 | x1 | x1, st⟩⟩
  all_goals first | exact fm_n (r := none) (fun _ _ => rfl) | skip
  refine fm_if (c := x1 = 99) (g := fun _ K pc ls _ σ => if 0 ≤ wr x0 ∧ wr x0 < σ 98 0 then K (pc + 1) ls (vI (σ 99 (wr x0).toNat) :: st) σ else none) (h := s_no) (fun _ _ => rfl) (fun z => fm_if (fun _ _ => rfl) (fun _ => fm_kAt) fm_noAt) fm_noAt
theorem fm_copy  : Form (s_copy) := by
  intro pc ls st σ
  rcases st with _ | ⟨x0 | x0 | x0 | x0, _ | ⟨x1 | x1 | x1 | x1, _ | ⟨x2 | x2 | x2 | x2, _ | ⟨x3 | x3 | x3 | x3, _ | ⟨x4 | x4 | x4 | x4, st⟩⟩⟩⟩⟩
  all_goals first | exact fm_n (r := none) (fun _ _ => rfl) | skip
  refine fm_if (c := kd x4 = 10 ∧ kd x2 = 10 ∧ st.length ≤ 4) (g := fun _ K pc ls _ σ => if 0 ≤ wr x3 ∧ 0 ≤ wr x1 ∧ 0 ≤ wr x0 ∧ wr x3 + wr x0 ≤ ln x4 ∧ wr x1 + wr x0 ≤ ln x2 then K (pc + 3) ls st (cpy σ x4 (wr x3).toNat x2 (wr x1).toNat (wr x0).toNat) else none) (h := s_no) (fun _ _ => rfl) (fun z => fm_if (fun _ _ => rfl) (fun _ => fm_wAt (cpy_hi (kd_lt z.2.1 (by decide)))) fm_noAt) fm_noAt
theorem fm_ldstr : Form s_ldstr := fun _ _ _ _ => fm_k fun _ _ => rfl
theorem fm_strlen  : Form (s_strlen) := by
  intro pc ls st σ
  rcases st with _ | ⟨x0 | x0 | x0 | x0, st⟩
  all_goals first | exact fm_n (r := none) (fun _ _ => rfl) | exact fm_k (fun _ _ => rfl) | exact fm_if (fun _ _ => rfl) (fun _ => fm_kAt) fm_noAt
theorem fm_strch  : Form (s_strch) := by
  intro pc ls st σ
  rcases st with _ | ⟨x0 | x0 | x0 | x0, _ | ⟨x1 | x1 | x1 | x1, st⟩⟩
  all_goals first | exact fm_n (r := none) (fun _ _ => rfl) | skip
  refine fm_if (c := x1 = 97) (g := fun _ K pc ls _ σ => if 0 ≤ wr x0 ∧ wr x0 < 67 then K (pc + 3) ls (vI (strL.getD (wr x0).toNat 0) :: st) σ else none) (h := s_no) (fun _ _ => rfl) (fun z => fm_if (fun _ _ => rfl) (fun _ => fm_kAt) fm_noAt) fm_noAt
theorem fm_iret : Form s_iret := by
  intro pc ls st σ
  rcases st with _ | ⟨x0 | x0 | x0 | x0, _ | ⟨x1, st⟩⟩
  all_goals first | exact fm_n (fun _ _ => rfl) | exact fm_if (g := fun _ _ _ _ _ σ => some (vI x0, σ)) (fun _ _ => rfl) (fun _ => fm_n (fun _ _ => rfl)) fm_noAt
theorem fm_zret : Form s_zret := by
  intro pc ls st σ
  rcases st with _ | ⟨x0 | x0 | x0 | x0, _ | ⟨x1, st⟩⟩
  all_goals first | exact fm_n (fun _ _ => rfl) | exact fm_if (g := fun _ _ _ _ _ σ => some (vI x0, σ)) (fun _ _ => rfl) (fun _ => fm_n (fun _ _ => rfl)) fm_noAt
theorem fm_cret : Form s_cret := by
  intro pc ls st σ
  rcases st with _ | ⟨x0 | x0 | x0 | x0, _ | ⟨x1, st⟩⟩
  all_goals first | exact fm_n (fun _ _ => rfl) | exact fm_if (g := fun _ _ _ _ _ σ => some (vI x0, σ)) (fun _ _ => rfl) (fun _ => fm_n (fun _ _ => rfl)) fm_noAt
theorem fm_aret : Form s_aret := by
  intro pc ls st σ
  rcases st with _ | ⟨x0 | x0 | x0 | x0, _ | ⟨x1, st⟩⟩
  all_goals first | exact fm_n (fun _ _ => rfl) | exact fm_if (g := fun _ _ _ _ _ σ => some (vI x0, σ)) (fun _ _ => rfl) (fun _ => fm_n (fun _ _ => rfl)) fm_noAt
theorem fm_vret : Form s_vret := by
  intro pc ls st σ
  rcases st with _ | ⟨x0, st⟩
  all_goals exact fm_n (fun _ _ => rfl)
theorem fm_sw (d : Nat) (x : Int) (ls st : List AV) (σ : Sg) : ∀ tb : List (Int × Nat), ∃ t : Nat, ∀ K : Kn, swk (fun t => K t ls st σ) d x tb = K t ls st σ
  | [] => ⟨d, fun _ => rfl⟩
  | q :: r => by
    obtain ⟨t, h⟩ := fm_sw d x ls st σ r
    by_cases e : x = q.1
    · exact ⟨q.2, fun K => by show (if x = q.1 then _ else _) = _; rw [if_pos e]⟩
    · exact ⟨t, fun K => by show (if x = q.1 then _ else _) = _; rw [if_neg e]; exact h K⟩
theorem fm_switch (tb : List (Int × Nat)) (d : Nat) : Form (s_switch tb d) := by
  intro pc ls st σ
  rcases st with _ | ⟨x0 | x0 | x0 | x0, st⟩
  all_goals first | exact fm_n (r := none) (fun _ _ => rfl) | skip
  obtain ⟨t, h⟩ := fm_sw d (wr x0) ls st σ tb
  exact fm_k (fun C K => h K)
theorem fm_call (c n : Nat) (f : Step) (hf : Form f) : Form (s_call c n f) := by
  intro pc ls st σ
  cases h : st[n]? with
  | none => exact fm_n (r := none) (fun C K => by simp only [s_call, h])
  | some v =>
    rcases v with x | x | x | x
    · exact fm_n (r := none) (fun C K => by simp only [s_call, h])
    · refine fm_if (c := kd x = c) (g := f) (h := s_no) (fun C K => by simp only [s_call, h]; rfl) (fun _ => hf pc ls st σ) fm_noAt
    · exact fm_n (r := none) (fun C K => by simp only [s_call, h])
    · exact fm_n (r := none) (fun C K => by simp only [s_call, h])
theorem fm_scallI (m n : Nat) : Form (s_scallI m n) := by
  intro pc ls st σ
  by_cases h : (st.drop n).length ≤ 4 ∧ n ≤ st.length ∧ (st.take n).all gA = true
  · refine Or.inr (Or.inr ⟨m, (st.take n).reverse, fun r => match r.1 with
      | .inl x => some (pc + 3, ls, vI x :: st.drop n, r.2)
      | _ => none, fun C K => ?_, fun r q hq => ?_⟩)
    · simp only [s_scallI, if_pos h, kcI]
      cases C m (st.take n).reverse σ with
      | none => rfl
      | some r =>
        obtain ⟨v, s'⟩ := r
        rcases v with x | x | x | x <;> rfl
    · obtain ⟨v, s'⟩ := r
      rcases v with x | x | x | x <;> cases hq
      rfl
  · exact fm_n (r := none) (fun C K => by simp only [s_scallI, if_neg h])
theorem fm_scallR (p0 m n : Nat) : Form (s_scallR p0 m n) := by
  intro pc ls st σ
  by_cases h : (st.drop n).length ≤ 4 ∧ n ≤ st.length ∧ (st.take n).all gA = true
  · refine Or.inr (Or.inr ⟨m, (st.take n).reverse, fun r => match r.1 with
      | .inr (.inl x) => if x = p0 then some (pc + 3, ls, vR p0 :: st.drop n, r.2) else none
      | _ => none, fun C K => ?_, fun r q hq => ?_⟩)
    · simp only [s_scallR, if_pos h, kcR]
      cases C m (st.take n).reverse σ with
      | none => rfl
      | some r =>
        obtain ⟨v, s'⟩ := r
        rcases v with x | x | x | x
        · rfl
        · by_cases e : x = p0
          · simp only [if_pos e]
          · simp only [if_neg e]
        · rfl
        · rfl
    · obtain ⟨v, s'⟩ := r
      rcases v with x | x | x | x
      · cases hq
      · have hq : (if x = p0 then some (pc + 3, ls, vR p0 :: st.drop n, s') else none) = some q := hq
        by_cases e : x = p0
        · rw [if_pos e] at hq; cases hq; rfl
        · rw [if_neg e] at hq; cases hq
      · cases hq
      · cases hq
  · exact fm_n (r := none) (fun C K => by simp only [s_scallR, if_neg h])
theorem fm_scallV (m n : Nat) : Form (s_scallV m n) := by
  intro pc ls st σ
  by_cases h : (st.drop n).length ≤ 4 ∧ n ≤ st.length ∧ (st.take n).all gA = true
  · refine Or.inr (Or.inr ⟨m, (st.take n).reverse, fun r => some (pc + 3, ls, st.drop n, r.2), fun C K => ?_, fun r q hq => ?_⟩)
    · simp only [s_scallV, if_pos h, kcV]
      cases C m (st.take n).reverse σ with
      | none => rfl
      | some r =>
        obtain ⟨v, s'⟩ := r
        rcases v with x | x | x | x <;> rfl
    · cases hq
      rfl
  · exact fm_n (r := none) (fun C K => by simp only [s_scallV, if_neg h])
-- THE LIMIT
section RUN2
variable {cd : Nat → List Step} {nl : Nat → Nat}
theorem arun_mono (hF : ∀ (m pc : Nat) (f : Step), (cd m)[pc]? = some f → Form f) : ∀ (n m pc : Nat) (ls st : List AV) (σ : Sg) (r : AV × Sg), arun cd nl n m pc ls st σ = some r → arun cd nl (n + 1) m pc ls st σ = some r
  | 0, _, _, _, _, _, _ => fun h => by cases h
  | n + 1, m, pc, ls, st, σ, r => fun h => by
    unfold arun at h ⊢
    cases hc : (cd m)[pc]? with
    | none => rw [hc] at h; cases h
    | some f =>
      rw [hc] at h
      dsimp only at h ⊢
      rcases hF m pc f hc pc ls st σ with ⟨x, hx, -⟩ | ⟨a, b, c, d, hx, -⟩ | ⟨m', as, g, hx, -⟩
      · rw [hx] at h ⊢
        exact h
      · rw [hx] at h ⊢
        exact arun_mono hF n m a b c d r h
      · rw [hx] at h ⊢
        cases h1 : arun cd nl n m' 0 (ent (nl m') as) [] σ with
        | none => rw [h1] at h; cases h
        | some q =>
          rw [h1] at h
          rw [arun_mono hF n m' 0 _ [] σ q h1]
          dsimp only at h ⊢
          cases h2 : g q with
          | none => rw [h2] at h; cases h
          | some z =>
            rw [h2] at h
            exact arun_mono hF n m _ _ _ _ r h
/-- what lies beyond the cells stays -/
theorem arun_hi (hF : ∀ (m pc : Nat) (f : Step), (cd m)[pc]? = some f → Form f) : ∀ (n m pc : Nat) (ls st : List AV) (σ : Sg) (r : AV × Sg), arun cd nl n m pc ls st σ = some r → ∀ j i, nP ≤ j → r.2 j i = σ j i
  | 0, _, _, _, _, _, _ => fun h => by cases h
  | n + 1, m, pc, ls, st, σ, r => fun h => by
    unfold arun at h
    cases hc : (cd m)[pc]? with
    | none => rw [hc] at h; cases h
    | some f =>
      rw [hc] at h
      dsimp only at h
      rcases hF m pc f hc pc ls st σ with ⟨x, hx, hi⟩ | ⟨a, b, c, d, hx, hi⟩ | ⟨m', as, g, hx, hi⟩
      · rw [hx] at h
        exact hi r h
      · rw [hx] at h
        exact fun j i hj => (arun_hi hF n m a b c d r h j i hj).trans (hi j i hj)
      · rw [hx] at h
        cases h1 : arun cd nl n m' 0 (ent (nl m') as) [] σ with
        | none => rw [h1] at h; cases h
        | some q =>
          rw [h1] at h
          dsimp only at h
          cases h2 : g q with
          | none => rw [h2] at h; cases h
          | some z =>
            rw [h2] at h
            intro j i hj
            rw [arun_hi hF n m _ _ _ _ r h j i hj, hi q z h2]
            exact arun_hi hF n m' 0 _ [] σ q h1 j i hj
theorem arun_le (hF : ∀ (m pc : Nat) (f : Step), (cd m)[pc]? = some f → Form f) {n m pc : Nat} {ls st : List AV} {σ : Sg} {r : AV × Sg} (h : arun cd nl n m pc ls st σ = some r) : ∀ k : Nat, arun cd nl (n + k) m pc ls st σ = some r
  | 0 => h
  | k + 1 => arun_mono hF _ _ _ _ _ _ _ (arun_le hF h k)
theorem arun_lim (hF : ∀ (m pc : Nat) (f : Step), (cd m)[pc]? = some f → Form f) (m pc : Nat) (ls st : List AV) (σ : Sg) : ∃ r : Res, ∀ x, r = some x ↔ ∃ n, arun cd nl n m pc ls st σ = some x := by
  by_cases h : ∃ n x, arun cd nl n m pc ls st σ = some x
  · obtain ⟨n, x, hx⟩ := h
    refine ⟨some x, fun y => ⟨fun e => ⟨n, by rw [hx, e]⟩, fun ⟨k, hk⟩ => ?_⟩⟩
    have h1 := arun_le hF hx k
    have h2 := arun_le hF hk n
    rw [Nat.add_comm] at h2
    rw [h1] at h2
    exact h2
  · exact ⟨none, fun y => ⟨fun e => (by cases e), fun ⟨k, hk⟩ => absurd ⟨k, y, hk⟩ h⟩⟩
noncomputable def RunF (cd : Nat → List Step) (nl : Nat → Nat) (hF : ∀ (m pc : Nat) (f : Step), (cd m)[pc]? = some f → Form f) (m pc : Nat) (ls st : List AV) (σ : Sg) : Res := Classical.choose (arun_lim (nl := nl) hF m pc ls st σ)
theorem RunF_iff {hF : ∀ (m pc : Nat) (f : Step), (cd m)[pc]? = some f → Form f} {m pc : Nat} {ls st : List AV} {σ : Sg} {x : AV × Sg} : RunF cd nl hF m pc ls st σ = some x ↔ ∃ n, arun cd nl n m pc ls st σ = some x := Classical.choose_spec (arun_lim (nl := nl) hF m pc ls st σ) x
theorem RunF_step {hF : ∀ (m pc : Nat) (f : Step), (cd m)[pc]? = some f → Form f} (m pc : Nat) (ls st : List AV) (σ : Sg) : RunF cd nl hF m pc ls st σ = match (cd m)[pc]? with
    | none => none
    | some f => f (fun m' as σ' => RunF cd nl hF m' 0 (ent (nl m') as) [] σ') (fun pc' ls' st' σ' => RunF cd nl hF m pc' ls' st' σ') pc ls st σ := by
  apply Option.ext
  intro x
  rw [RunF_iff]
  cases hc : (cd m)[pc]? with
  | none =>
    refine ⟨fun ⟨n, h⟩ => ?_, fun h => by cases h⟩
    cases n with
    | zero => cases h
    | succ n => unfold arun at h; rw [hc] at h; cases h
  | some f =>
    dsimp only
    have hn : ∀ n, arun cd nl (n + 1) m pc ls st σ = f (fun m' as σ' => arun cd nl n m' 0 (ent (nl m') as) [] σ') (fun pc' ls' st' σ' => arun cd nl n m pc' ls' st' σ') pc ls st σ := fun n => by
      show (match (cd m)[pc]? with | none => none | some f => _) = _
      rw [hc]
    rcases hF m pc f hc pc ls st σ with ⟨r, hx, -⟩ | ⟨a, b, c, d, hx, -⟩ | ⟨m', as, g, hx, -⟩
    · rw [hx]
      refine ⟨fun ⟨n, h⟩ => ?_, fun h => ⟨1, by rw [hn, hx]; exact h⟩⟩
      cases n with
      | zero => cases h
      | succ n => rw [hn, hx] at h; exact h
    · rw [hx]
      rw [RunF_iff]
      refine ⟨fun ⟨n, h⟩ => ?_, fun ⟨n, h⟩ => ⟨n + 1, by rw [hn, hx]; exact h⟩⟩
      cases n with
      | zero => cases h
      | succ n => rw [hn, hx] at h; exact ⟨n, h⟩
    · rw [hx]
      refine ⟨fun ⟨n, h⟩ => ?_, fun h => ?_⟩
      · cases n with
        | zero => cases h
        | succ n =>
          rw [hn, hx] at h
          cases h1 : arun cd nl n m' 0 (ent (nl m') as) [] σ with
          | none => rw [h1] at h; cases h
          | some q =>
            rw [h1] at h
            rw [RunF_iff.mpr ⟨n, h1⟩]
            dsimp only at h ⊢
            cases h2 : g q with
            | none => rw [h2] at h; cases h
            | some z =>
              rw [h2] at h
              exact RunF_iff.mpr ⟨n, h⟩
      · cases h1 : RunF cd nl hF m' 0 (ent (nl m') as) [] σ with
        | none => rw [h1] at h; cases h
        | some q =>
          rw [h1] at h
          dsimp only at h
          cases h2 : g q with
          | none => rw [h2] at h; cases h
          | some z =>
            rw [h2] at h
            obtain ⟨n1, e1⟩ := RunF_iff.mp h1
            obtain ⟨n2, e2⟩ := RunF_iff.mp h
            refine ⟨n1 + n2 + 1, ?_⟩
            rw [hn, hx, arun_le hF e1 n2]
            dsimp only
            rw [h2]
            have e3 := arun_le hF e2 n1
            rw [Nat.add_comm] at e3
            exact e3
/-- a stretch of the code, unrolled as far as n steps and the stops go -/
def memb (x : Nat) : List Nat → Bool
  | [] => false
  | y :: r => cond (Nat.beq x y) true (memb x r)
def unr (code : List Step) (stop : List Nat) (C : Cl) (K : Kn) : Nat → Nat → List AV → List AV → Sg → Res
  | 0, pc, ls, st, σ => K pc ls st σ
  | n + 1, pc, ls, st, σ => match code[pc]? with
    | none => none
    | some f => f C (fun pc' ls' st' σ' => cond (memb pc' stop) (K pc' ls' st' σ') (unr code stop C K n pc' ls' st' σ')) pc ls st σ
theorem RunF_unr {hF : ∀ (m pc : Nat) (f : Step), (cd m)[pc]? = some f → Form f} (stop : List Nat) (m : Nat) : ∀ (n pc : Nat) (ls st : List AV) (σ : Sg), RunF cd nl hF m pc ls st σ = unr (cd m) stop (fun m' as σ' => RunF cd nl hF m' 0 (ent (nl m') as) [] σ') (fun pc' ls' st' σ' => RunF cd nl hF m pc' ls' st' σ') n pc ls st σ
  | 0, _, _, _, _ => rfl
  | n + 1, pc, ls, st, σ => by
    rw [RunF_step]
    unfold unr
    have e : (fun (pc' : Nat) (ls' st' : List AV) (σ' : Sg) => cond (memb pc' stop) (RunF cd nl hF m pc' ls' st' σ') (unr (cd m) stop (fun m' as σ' => RunF cd nl hF m' 0 (ent (nl m') as) [] σ') (fun pc' ls' st' σ' => RunF cd nl hF m pc' ls' st' σ') n pc' ls' st' σ')) = fun pc' ls' st' σ' => RunF cd nl hF m pc' ls' st' σ' := by
      funext a b c d
      cases memb a stop
      · exact (RunF_unr stop m n a b c d).symm
      · rfl
    rw [e]
end RUN2
end
section
/-! THE CODES, printed by wip/whole/gen3.py: a list a method, by program counter -/
def iAd (x y : Int) : Int := x + y
def iSu (x y : Int) : Int := x - y
def iMu (x y : Int) : Int := x * y
theorem fc_0 : ∀ s ∈ ([] : List Step), Form s := fun _ h => absurd h List.not_mem_nil
theorem fc {a : Step} {l : List Step} (h : Form a) (t : ∀ s ∈ l, Form s) : ∀ s ∈ a :: l, Form s := List.forall_mem_cons.mpr ⟨h, t⟩
-- 0: SecondOboe$Band.clear()V
def k0 : List Step := [s_aload 0 1, s_push 0 1, s_putI 0 3, s_no, s_no, s_aload 0 1, s_push 0 1, s_putI 0 5, s_no, s_no, s_aload 0 1, s_push 0 1, s_putI 0 7, s_no, s_no, s_aload 0 1, s_push 0 1, s_putI 0 8, s_no, s_no, s_vret]
set_option maxRecDepth 100000 in
theorem f0 : ∀ s ∈ k0, Form s := fc (fm_aload _ _) <| fc (fm_push _ _) <| fc (fm_putI _ _ (by decide)) <| fc fm_no <| fc fm_no <| fc (fm_aload _ _) <| fc (fm_push _ _) <| fc (fm_putI _ _ (by decide)) <| fc fm_no <| fc fm_no <| fc (fm_aload _ _) <| fc (fm_push _ _) <| fc (fm_putI _ _ (by decide)) <| fc fm_no <| fc fm_no <| fc (fm_aload _ _) <| fc (fm_push _ _) <| fc (fm_putI _ _ (by decide)) <| fc fm_no <| fc fm_no <| fc fm_vret <| fc_0
-- 1: SecondOboe$Band.copyFrom(LSecondOboe$Band;)V
def k1 : List Step := [s_aload 1 1, s_getR 0 0, s_no, s_no, s_push 0 1, s_aload 0 1, s_getR 0 0, s_no, s_no, s_push 0 1, s_aload 0 1, s_getR 0 0, s_no, s_no, s_alen, s_copy, s_no, s_no, s_aload 1 1, s_getR 0 1, s_no, s_no, s_push 0 1, s_aload 0 1, s_getR 0 1, s_no, s_no, s_push 0 1, s_aload 0 1, s_getR 0 1, s_no, s_no, s_alen, s_copy, s_no, s_no, s_aload 1 1, s_getR 0 2, s_no, s_no, s_push 0 1, s_aload 0 1, s_getR 0 2, s_no, s_no, s_push 0 1, s_aload 0 1, s_getR 0 2, s_no, s_no, s_alen, s_copy, s_no, s_no, s_aload 1 1, s_getR 0 4, s_no, s_no, s_push 0 1, s_aload 0 1, s_getR 0 4, s_no, s_no, s_push 0 1, s_aload 0 1, s_getR 0 4, s_no, s_no, s_alen, s_copy, s_no, s_no, s_aload 1 1, s_getR 0 6, s_no, s_no, s_push 0 1, s_aload 0 1, s_getR 0 6, s_no, s_no, s_push 0 1, s_aload 0 1, s_getR 0 6, s_no, s_no, s_alen, s_copy, s_no, s_no, s_aload 0 1, s_aload 1 1, s_getI 0 3, s_no, s_no, s_putI 0 3, s_no, s_no, s_aload 0 1, s_aload 1 1, s_getI 0 5, s_no, s_no, s_putI 0 5, s_no, s_no, s_aload 0 1, s_aload 1 1, s_getI 0 7, s_no, s_no, s_putI 0 7, s_no, s_no, s_aload 0 1, s_aload 1 1, s_getI 0 8, s_no, s_no, s_putI 0 8, s_no, s_no, s_vret]
set_option maxRecDepth 100000 in
theorem f1 : ∀ s ∈ k1, Form s := fc (fm_aload _ _) <| fc (fm_getR _ _) <| fc fm_no <| fc fm_no <| fc (fm_push _ _) <| fc (fm_aload _ _) <| fc (fm_getR _ _) <| fc fm_no <| fc fm_no <| fc (fm_push _ _) <| fc (fm_aload _ _) <| fc (fm_getR _ _) <| fc fm_no <| fc fm_no <| fc fm_alen <| fc fm_copy <| fc fm_no <| fc fm_no <| fc (fm_aload _ _) <| fc (fm_getR _ _) <| fc fm_no <| fc fm_no <| fc (fm_push _ _) <| fc (fm_aload _ _) <| fc (fm_getR _ _) <| fc fm_no <| fc fm_no <| fc (fm_push _ _) <| fc (fm_aload _ _) <| fc (fm_getR _ _) <| fc fm_no <| fc fm_no <| fc fm_alen <| fc fm_copy <| fc fm_no <| fc fm_no <| fc (fm_aload _ _) <| fc (fm_getR _ _) <| fc fm_no <| fc fm_no <| fc (fm_push _ _) <| fc (fm_aload _ _) <| fc (fm_getR _ _) <| fc fm_no <| fc fm_no <| fc (fm_push _ _) <| fc (fm_aload _ _) <| fc (fm_getR _ _) <| fc fm_no <| fc fm_no <| fc fm_alen <| fc fm_copy <| fc fm_no <| fc fm_no <| fc (fm_aload _ _) <| fc (fm_getR _ _) <| fc fm_no <| fc fm_no <| fc (fm_push _ _) <| fc (fm_aload _ _) <| fc (fm_getR _ _) <| fc fm_no <| fc fm_no <| fc (fm_push _ _) <| fc (fm_aload _ _) <| fc (fm_getR _ _) <| fc fm_no <| fc fm_no <| fc fm_alen <| fc fm_copy <| fc fm_no <| fc fm_no <| fc (fm_aload _ _) <| fc (fm_getR _ _) <| fc fm_no <| fc fm_no <| fc (fm_push _ _) <| fc (fm_aload _ _) <| fc (fm_getR _ _) <| fc fm_no <| fc fm_no <| fc (fm_push _ _) <| fc (fm_aload _ _) <| fc (fm_getR _ _) <| fc fm_no <| fc fm_no <| fc fm_alen <| fc fm_copy <| fc fm_no <| fc fm_no <| fc (fm_aload _ _) <| fc (fm_aload _ _) <| fc (fm_getI _ _) <| fc fm_no <| fc fm_no <| fc (fm_putI _ _ (by decide)) <| fc fm_no <| fc fm_no <| fc (fm_aload _ _) <| fc (fm_aload _ _) <| fc (fm_getI _ _) <| fc fm_no <| fc fm_no <| fc (fm_putI _ _ (by decide)) <| fc fm_no <| fc fm_no <| fc (fm_aload _ _) <| fc (fm_aload _ _) <| fc (fm_getI _ _) <| fc fm_no <| fc fm_no <| fc (fm_putI _ _ (by decide)) <| fc fm_no <| fc fm_no <| fc (fm_aload _ _) <| fc (fm_aload _ _) <| fc (fm_getI _ _) <| fc fm_no <| fc fm_no <| fc (fm_putI _ _ (by decide)) <| fc fm_no <| fc fm_no <| fc fm_vret <| fc_0
-- 2: SecondOboe$Band.addInstrument(III)Z
def k2 : List Step := [s_aload 0 1, s_getI 0 3, s_no, s_no, s_push 7 2, s_no, s_icge 26, s_no, s_no, s_iload 1 1, s_push 4 1, s_icge 26, s_no, s_no, s_iload 2 1, s_push 7 2, s_no, s_icge 26, s_no, s_no, s_iload 3 1, s_push 30 2, s_no, s_icle 28, s_no, s_no, s_push 0 1, s_zret, s_aload 0 1, s_getR 0 0, s_no, s_no, s_aload 0 1, s_getI 0 3, s_no, s_no, s_iload 1 1, s_iast, s_aload 0 1, s_getR 0 1, s_no, s_no, s_aload 0 1, s_getI 0 3, s_no, s_no, s_iload 2 1, s_iast, s_aload 0 1, s_getR 0 2, s_no, s_no, s_aload 0 1, s_getI 0 3, s_no, s_no, s_iload 3 1, s_iast, s_aload 0 1, s_dup, s_getI 0 3, s_no, s_no, s_push 1 1, s_bin iAd, s_putI 0 3, s_no, s_no, s_push 1 1, s_zret]
set_option maxRecDepth 100000 in
theorem f2 : ∀ s ∈ k2, Form s := fc (fm_aload _ _) <| fc (fm_getI _ _) <| fc fm_no <| fc fm_no <| fc (fm_push _ _) <| fc fm_no <| fc (fm_icge _) <| fc fm_no <| fc fm_no <| fc (fm_iload _ _) <| fc (fm_push _ _) <| fc (fm_icge _) <| fc fm_no <| fc fm_no <| fc (fm_iload _ _) <| fc (fm_push _ _) <| fc fm_no <| fc (fm_icge _) <| fc fm_no <| fc fm_no <| fc (fm_iload _ _) <| fc (fm_push _ _) <| fc fm_no <| fc (fm_icle _) <| fc fm_no <| fc fm_no <| fc (fm_push _ _) <| fc fm_zret <| fc (fm_aload _ _) <| fc (fm_getR _ _) <| fc fm_no <| fc fm_no <| fc (fm_aload _ _) <| fc (fm_getI _ _) <| fc fm_no <| fc fm_no <| fc (fm_iload _ _) <| fc fm_iast <| fc (fm_aload _ _) <| fc (fm_getR _ _) <| fc fm_no <| fc fm_no <| fc (fm_aload _ _) <| fc (fm_getI _ _) <| fc fm_no <| fc fm_no <| fc (fm_iload _ _) <| fc fm_iast <| fc (fm_aload _ _) <| fc (fm_getR _ _) <| fc fm_no <| fc fm_no <| fc (fm_aload _ _) <| fc (fm_getI _ _) <| fc fm_no <| fc fm_no <| fc (fm_iload _ _) <| fc fm_iast <| fc (fm_aload _ _) <| fc fm_dup <| fc (fm_getI _ _) <| fc fm_no <| fc fm_no <| fc (fm_push _ _) <| fc (fm_bin _) <| fc (fm_putI _ _ (by decide)) <| fc fm_no <| fc fm_no <| fc (fm_push _ _) <| fc fm_zret <| fc_0
-- 3: SecondOboe$Band.addBar(II)Z
def k3 : List Step := [s_aload 0 1, s_getI 0 5, s_no, s_no, s_push 8 2, s_no, s_icge 21, s_no, s_no, s_iload 1 1, s_push 15 2, s_no, s_icgt 21, s_no, s_no, s_iload 2 1, s_push 7 2, s_no, s_icle 23, s_no, s_no, s_push 0 1, s_zret, s_aload 0 1, s_getR 0 4, s_no, s_no, s_aload 0 1, s_getI 0 5, s_no, s_no, s_iload 1 1, s_iload 2 1, s_push 4 1, s_bin bsl, s_bin bor, s_iast, s_aload 0 1, s_dup, s_getI 0 5, s_no, s_no, s_push 1 1, s_bin iAd, s_putI 0 5, s_no, s_no, s_push 1 1, s_zret]
set_option maxRecDepth 100000 in
theorem f3 : ∀ s ∈ k3, Form s := fc (fm_aload _ _) <| fc (fm_getI _ _) <| fc fm_no <| fc fm_no <| fc (fm_push _ _) <| fc fm_no <| fc (fm_icge _) <| fc fm_no <| fc fm_no <| fc (fm_iload _ _) <| fc (fm_push _ _) <| fc fm_no <| fc (fm_icgt _) <| fc fm_no <| fc fm_no <| fc (fm_iload _ _) <| fc (fm_push _ _) <| fc fm_no <| fc (fm_icle _) <| fc fm_no <| fc fm_no <| fc (fm_push _ _) <| fc fm_zret <| fc (fm_aload _ _) <| fc (fm_getR _ _) <| fc fm_no <| fc fm_no <| fc (fm_aload _ _) <| fc (fm_getI _ _) <| fc fm_no <| fc fm_no <| fc (fm_iload _ _) <| fc (fm_iload _ _) <| fc (fm_push _ _) <| fc (fm_bin _) <| fc (fm_bin _) <| fc fm_iast <| fc (fm_aload _ _) <| fc fm_dup <| fc (fm_getI _ _) <| fc fm_no <| fc fm_no <| fc (fm_push _ _) <| fc (fm_bin _) <| fc (fm_putI _ _ (by decide)) <| fc fm_no <| fc fm_no <| fc (fm_push _ _) <| fc fm_zret <| fc_0
-- 4: SecondOboe$Band.toldSet()I
def k4 : List Step := [s_push 0 1, s_istore 1 1, s_push 0 1, s_istore 2 1, s_iload 2 1, s_aload 0 1, s_getI 0 7, s_no, s_no, s_icge 29, s_no, s_no, s_iload 1 1, s_push 1 1, s_aload 0 1, s_getR 0 6, s_no, s_no, s_iload 2 1, s_iald, s_bin bsl, s_bin bor, s_istore 1 1, s_iinc 2 1, s_no, s_no, s_goto 4, s_no, s_no, s_iload 1 1, s_iret]
set_option maxRecDepth 100000 in
theorem f4 : ∀ s ∈ k4, Form s := fc (fm_push _ _) <| fc (fm_istore _ _) <| fc (fm_push _ _) <| fc (fm_istore _ _) <| fc (fm_iload _ _) <| fc (fm_aload _ _) <| fc (fm_getI _ _) <| fc fm_no <| fc fm_no <| fc (fm_icge _) <| fc fm_no <| fc fm_no <| fc (fm_iload _ _) <| fc (fm_push _ _) <| fc (fm_aload _ _) <| fc (fm_getR _ _) <| fc fm_no <| fc fm_no <| fc (fm_iload _ _) <| fc fm_iald <| fc (fm_bin _) <| fc (fm_bin _) <| fc (fm_istore _ _) <| fc (fm_iinc _ _) <| fc fm_no <| fc fm_no <| fc (fm_goto _) <| fc fm_no <| fc fm_no <| fc (fm_iload _ _) <| fc fm_iret <| fc_0
-- 5: SecondOboe$Band.addSeat(I)Z
def k5 : List Step := [s_iload 1 1, s_aload 0 1, s_getI 0 3, s_no, s_no, s_iclt 10, s_no, s_no, s_push 0 1, s_zret, s_aload 0 1, s_call 0 0 (s_scallI 4 1), s_no, s_no, s_iload 1 1, s_bin bsr, s_push 1 1, s_bin ban, s_ifne 50, s_no, s_no, s_aload 0 1, s_getI 0 7, s_no, s_no, s_push 7 2, s_no, s_icge 50, s_no, s_no, s_aload 0 1, s_getR 0 6, s_no, s_no, s_aload 0 1, s_getI 0 7, s_no, s_no, s_iload 1 1, s_iast, s_aload 0 1, s_dup, s_getI 0 7, s_no, s_no, s_push 1 1, s_bin iAd, s_putI 0 7, s_no, s_no, s_push 1 1, s_zret]
set_option maxRecDepth 100000 in
theorem f5 : ∀ s ∈ k5, Form s := fc (fm_iload _ _) <| fc (fm_aload _ _) <| fc (fm_getI _ _) <| fc fm_no <| fc fm_no <| fc (fm_iclt _) <| fc fm_no <| fc fm_no <| fc (fm_push _ _) <| fc fm_zret <| fc (fm_aload _ _) <| fc (fm_call _ _ _ (fm_scallI _ _)) <| fc fm_no <| fc fm_no <| fc (fm_iload _ _) <| fc (fm_bin _) <| fc (fm_push _ _) <| fc (fm_bin _) <| fc (fm_ifne _) <| fc fm_no <| fc fm_no <| fc (fm_aload _ _) <| fc (fm_getI _ _) <| fc fm_no <| fc fm_no <| fc (fm_push _ _) <| fc fm_no <| fc (fm_icge _) <| fc fm_no <| fc fm_no <| fc (fm_aload _ _) <| fc (fm_getR _ _) <| fc fm_no <| fc fm_no <| fc (fm_aload _ _) <| fc (fm_getI _ _) <| fc fm_no <| fc fm_no <| fc (fm_iload _ _) <| fc fm_iast <| fc (fm_aload _ _) <| fc fm_dup <| fc (fm_getI _ _) <| fc fm_no <| fc fm_no <| fc (fm_push _ _) <| fc (fm_bin _) <| fc (fm_putI _ _ (by decide)) <| fc fm_no <| fc fm_no <| fc (fm_push _ _) <| fc fm_zret <| fc_0
-- 6: SecondOboe$Band.addGap(I)Z
def k6 : List Step := [s_iload 1 1, s_push 5 1, s_icle 7, s_no, s_no, s_push 0 1, s_zret, s_aload 0 1, s_dup, s_getI 0 8, s_no, s_no, s_push 1 1, s_iload 1 1, s_bin bsl, s_bin bor, s_putI 0 8, s_no, s_no, s_push 1 1, s_zret]
set_option maxRecDepth 100000 in
theorem f6 : ∀ s ∈ k6, Form s := fc (fm_iload _ _) <| fc (fm_push _ _) <| fc (fm_icle _) <| fc fm_no <| fc fm_no <| fc (fm_push _ _) <| fc fm_zret <| fc (fm_aload _ _) <| fc fm_dup <| fc (fm_getI _ _) <| fc fm_no <| fc fm_no <| fc (fm_push _ _) <| fc (fm_iload _ _) <| fc (fm_bin _) <| fc (fm_bin _) <| fc (fm_putI _ _ (by decide)) <| fc fm_no <| fc fm_no <| fc (fm_push _ _) <| fc fm_zret <| fc_0
-- 7: SecondOboe$Band.hasAllItNames()Z
def k7 : List Step := [s_push 0 1, s_istore 1 1, s_iload 1 1, s_aload 0 1, s_getI 0 3, s_no, s_no, s_icge 31, s_no, s_no, s_aload 0 1, s_getR 0 1, s_no, s_no, s_iload 1 1, s_iald, s_aload 0 1, s_getI 0 3, s_no, s_no, s_iclt 25, s_no, s_no, s_push 0 1, s_zret, s_iinc 1 1, s_no, s_no, s_goto 2, s_no, s_no, s_push 0 1, s_istore 1 1, s_iload 1 1, s_aload 0 1, s_getI 0 5, s_no, s_no, s_icge 63, s_no, s_no, s_aload 0 1, s_getR 0 4, s_no, s_no, s_iload 1 1, s_iald, s_aload 0 1, s_getI 0 3, s_no, s_no, s_bin bsr, s_ifeq 57, s_no, s_no, s_push 0 1, s_zret, s_iinc 1 1, s_no, s_no, s_goto 33, s_no, s_no, s_aload 0 1, s_getI 0 3, s_no, s_no, s_ifle 74, s_no, s_no, s_push 1 1, s_goto 75, s_no, s_no, s_push 0 1, s_zret]
set_option maxRecDepth 100000 in
theorem f7 : ∀ s ∈ k7, Form s := fc (fm_push _ _) <| fc (fm_istore _ _) <| fc (fm_iload _ _) <| fc (fm_aload _ _) <| fc (fm_getI _ _) <| fc fm_no <| fc fm_no <| fc (fm_icge _) <| fc fm_no <| fc fm_no <| fc (fm_aload _ _) <| fc (fm_getR _ _) <| fc fm_no <| fc fm_no <| fc (fm_iload _ _) <| fc fm_iald <| fc (fm_aload _ _) <| fc (fm_getI _ _) <| fc fm_no <| fc fm_no <| fc (fm_iclt _) <| fc fm_no <| fc fm_no <| fc (fm_push _ _) <| fc fm_zret <| fc (fm_iinc _ _) <| fc fm_no <| fc fm_no <| fc (fm_goto _) <| fc fm_no <| fc fm_no <| fc (fm_push _ _) <| fc (fm_istore _ _) <| fc (fm_iload _ _) <| fc (fm_aload _ _) <| fc (fm_getI _ _) <| fc fm_no <| fc fm_no <| fc (fm_icge _) <| fc fm_no <| fc fm_no <| fc (fm_aload _ _) <| fc (fm_getR _ _) <| fc fm_no <| fc fm_no <| fc (fm_iload _ _) <| fc fm_iald <| fc (fm_aload _ _) <| fc (fm_getI _ _) <| fc fm_no <| fc fm_no <| fc (fm_bin _) <| fc (fm_ifeq _) <| fc fm_no <| fc fm_no <| fc (fm_push _ _) <| fc fm_zret <| fc (fm_iinc _ _) <| fc fm_no <| fc fm_no <| fc (fm_goto _) <| fc fm_no <| fc fm_no <| fc (fm_aload _ _) <| fc (fm_getI _ _) <| fc fm_no <| fc fm_no <| fc (fm_ifle _) <| fc fm_no <| fc fm_no <| fc (fm_push _ _) <| fc (fm_goto _) <| fc fm_no <| fc fm_no <| fc (fm_push _ _) <| fc fm_zret <| fc_0
-- 8: SecondOboe$Band.seatAll([I)V
def k8 : List Step := [s_aload 0 1, s_call 0 0 (s_scallI 4 1), s_no, s_no, s_istore 2 1, s_aload 0 1, s_getI 0 7, s_no, s_no, s_istore 3 1, s_aload 0 1, s_getR 0 6, s_no, s_no, s_push 0 1, s_aload 1 1, s_push 0 1, s_aload 1 1, s_alen, s_copy, s_no, s_no, s_push 0 1, s_istore 4 2, s_no, s_iload 4 2, s_no, s_aload 0 1, s_getI 0 3, s_no, s_no, s_icge 63, s_no, s_no, s_iload 3 1, s_aload 1 1, s_alen, s_icge 63, s_no, s_no, s_iload 2 1, s_iload 4 2, s_no, s_bin bsr, s_push 1 1, s_bin ban, s_ifne 57, s_no, s_no, s_aload 1 1, s_iload 3 1, s_iload 4 2, s_no, s_iast, s_iinc 3 1, s_no, s_no, s_iinc 4 1, s_no, s_no, s_goto 25, s_no, s_no, s_vret]
set_option maxRecDepth 100000 in
theorem f8 : ∀ s ∈ k8, Form s := fc (fm_aload _ _) <| fc (fm_call _ _ _ (fm_scallI _ _)) <| fc fm_no <| fc fm_no <| fc (fm_istore _ _) <| fc (fm_aload _ _) <| fc (fm_getI _ _) <| fc fm_no <| fc fm_no <| fc (fm_istore _ _) <| fc (fm_aload _ _) <| fc (fm_getR _ _) <| fc fm_no <| fc fm_no <| fc (fm_push _ _) <| fc (fm_aload _ _) <| fc (fm_push _ _) <| fc (fm_aload _ _) <| fc fm_alen <| fc fm_copy <| fc fm_no <| fc fm_no <| fc (fm_push _ _) <| fc (fm_istore _ _) <| fc fm_no <| fc (fm_iload _ _) <| fc fm_no <| fc (fm_aload _ _) <| fc (fm_getI _ _) <| fc fm_no <| fc fm_no <| fc (fm_icge _) <| fc fm_no <| fc fm_no <| fc (fm_iload _ _) <| fc (fm_aload _ _) <| fc fm_alen <| fc (fm_icge _) <| fc fm_no <| fc fm_no <| fc (fm_iload _ _) <| fc (fm_iload _ _) <| fc fm_no <| fc (fm_bin _) <| fc (fm_push _ _) <| fc (fm_bin _) <| fc (fm_ifne _) <| fc fm_no <| fc fm_no <| fc (fm_aload _ _) <| fc (fm_iload _ _) <| fc (fm_iload _ _) <| fc fm_no <| fc fm_iast <| fc (fm_iinc _ _) <| fc fm_no <| fc fm_no <| fc (fm_iinc _ _) <| fc fm_no <| fc fm_no <| fc (fm_goto _) <| fc fm_no <| fc fm_no <| fc fm_vret <| fc_0
-- 9: SecondOboe$Evening.lookAround(I[II)V
def k9 : List Step := [s_push 0 1, s_istore 4 2, s_no, s_iload 4 2, s_no, s_iload 1 1, s_icge 106, s_no, s_no, s_iload 4 2, s_no, s_ifle 29, s_no, s_no, s_iload 3 1, s_iload 4 2, s_no, s_push 1 1, s_bin iSu, s_bin bsr, s_push 1 1, s_bin ban, s_ifne 29, s_no, s_no, s_push 1 1, s_goto 30, s_no, s_no, s_push 0 1, s_istore 5 2, s_no, s_iload 4 2, s_no, s_push 1 1, s_bin iAd, s_iload 1 1, s_icge 53, s_no, s_no, s_iload 3 1, s_iload 4 2, s_no, s_bin bsr, s_push 1 1, s_bin ban, s_ifne 53, s_no, s_no, s_push 1 1, s_goto 54, s_no, s_no, s_push 0 1, s_istore 6 2, s_no, s_aload 0 1, s_getR 1 0, s_no, s_no, s_aload 2 1, s_iload 4 2, s_no, s_iald, s_iload 5 2, s_no, s_ifeq 80, s_no, s_no, s_push 1 1, s_aload 2 1, s_iload 4 2, s_no, s_push 1 1, s_bin iSu, s_iald, s_bin bsl, s_goto 81, s_no, s_no, s_push 0 1, s_iload 6 2, s_no, s_ifeq 97, s_no, s_no, s_push 1 1, s_aload 2 1, s_iload 4 2, s_no, s_push 1 1, s_bin iAd, s_iald, s_bin bsl, s_goto 98, s_no, s_no, s_push 0 1, s_bin bor, s_iast, s_iinc 4 1, s_no, s_no, s_goto 3, s_no, s_no, s_vret]
set_option maxRecDepth 100000 in
theorem f9 : ∀ s ∈ k9, Form s := fc (fm_push _ _) <| fc (fm_istore _ _) <| fc fm_no <| fc (fm_iload _ _) <| fc fm_no <| fc (fm_iload _ _) <| fc (fm_icge _) <| fc fm_no <| fc fm_no <| fc (fm_iload _ _) <| fc fm_no <| fc (fm_ifle _) <| fc fm_no <| fc fm_no <| fc (fm_iload _ _) <| fc (fm_iload _ _) <| fc fm_no <| fc (fm_push _ _) <| fc (fm_bin _) <| fc (fm_bin _) <| fc (fm_push _ _) <| fc (fm_bin _) <| fc (fm_ifne _) <| fc fm_no <| fc fm_no <| fc (fm_push _ _) <| fc (fm_goto _) <| fc fm_no <| fc fm_no <| fc (fm_push _ _) <| fc (fm_istore _ _) <| fc fm_no <| fc (fm_iload _ _) <| fc fm_no <| fc (fm_push _ _) <| fc (fm_bin _) <| fc (fm_iload _ _) <| fc (fm_icge _) <| fc fm_no <| fc fm_no <| fc (fm_iload _ _) <| fc (fm_iload _ _) <| fc fm_no <| fc (fm_bin _) <| fc (fm_push _ _) <| fc (fm_bin _) <| fc (fm_ifne _) <| fc fm_no <| fc fm_no <| fc (fm_push _ _) <| fc (fm_goto _) <| fc fm_no <| fc fm_no <| fc (fm_push _ _) <| fc (fm_istore _ _) <| fc fm_no <| fc (fm_aload _ _) <| fc (fm_getR _ _) <| fc fm_no <| fc fm_no <| fc (fm_aload _ _) <| fc (fm_iload _ _) <| fc fm_no <| fc fm_iald <| fc (fm_iload _ _) <| fc fm_no <| fc (fm_ifeq _) <| fc fm_no <| fc fm_no <| fc (fm_push _ _) <| fc (fm_aload _ _) <| fc (fm_iload _ _) <| fc fm_no <| fc (fm_push _ _) <| fc (fm_bin _) <| fc fm_iald <| fc (fm_bin _) <| fc (fm_goto _) <| fc fm_no <| fc fm_no <| fc (fm_push _ _) <| fc (fm_iload _ _) <| fc fm_no <| fc (fm_ifeq _) <| fc fm_no <| fc fm_no <| fc (fm_push _ _) <| fc (fm_aload _ _) <| fc (fm_iload _ _) <| fc fm_no <| fc (fm_push _ _) <| fc (fm_bin _) <| fc fm_iald <| fc (fm_bin _) <| fc (fm_goto _) <| fc fm_no <| fc fm_no <| fc (fm_push _ _) <| fc (fm_bin _) <| fc fm_iast <| fc (fm_iinc _ _) <| fc fm_no <| fc fm_no <| fc (fm_goto _) <| fc fm_no <| fc fm_no <| fc fm_vret <| fc_0
-- 10: SecondOboe$Evening.comeAnyway(LSecondOboe$Band;I)I
def k10 : List Step := [s_iload 2 1, s_istore 3 1, s_push 0 1, s_istore 4 2, s_no, s_iload 4 2, s_no, s_aload 1 1, s_getI 0 3, s_no, s_no, s_icge 67, s_no, s_no, s_aload 1 1, s_getR 0 0, s_no, s_no, s_iload 4 2, s_no, s_iald, s_istore 5 2, s_no, s_iload 5 2, s_no, s_ifeq 54, s_no, s_no, s_iload 5 2, s_no, s_push 1 1, s_icne 61, s_no, s_no, s_aload 0 1, s_getR 1 0, s_no, s_no, s_iload 4 2, s_no, s_iald, s_aload 1 1, s_getR 0 1, s_no, s_no, s_iload 4 2, s_no, s_iald, s_bin bsr, s_push 1 1, s_bin ban, s_ifne 61, s_no, s_no, s_iload 3 1, s_push 1 1, s_iload 4 2, s_no, s_bin bsl, s_bin bor, s_istore 3 1, s_iinc 4 1, s_no, s_no, s_goto 5, s_no, s_no, s_iload 3 1, s_iret]
set_option maxRecDepth 100000 in
theorem f10 : ∀ s ∈ k10, Form s := fc (fm_iload _ _) <| fc (fm_istore _ _) <| fc (fm_push _ _) <| fc (fm_istore _ _) <| fc fm_no <| fc (fm_iload _ _) <| fc fm_no <| fc (fm_aload _ _) <| fc (fm_getI _ _) <| fc fm_no <| fc fm_no <| fc (fm_icge _) <| fc fm_no <| fc fm_no <| fc (fm_aload _ _) <| fc (fm_getR _ _) <| fc fm_no <| fc fm_no <| fc (fm_iload _ _) <| fc fm_no <| fc fm_iald <| fc (fm_istore _ _) <| fc fm_no <| fc (fm_iload _ _) <| fc fm_no <| fc (fm_ifeq _) <| fc fm_no <| fc fm_no <| fc (fm_iload _ _) <| fc fm_no <| fc (fm_push _ _) <| fc (fm_icne _) <| fc fm_no <| fc fm_no <| fc (fm_aload _ _) <| fc (fm_getR _ _) <| fc fm_no <| fc fm_no <| fc (fm_iload _ _) <| fc fm_no <| fc fm_iald <| fc (fm_aload _ _) <| fc (fm_getR _ _) <| fc fm_no <| fc fm_no <| fc (fm_iload _ _) <| fc fm_no <| fc fm_iald <| fc (fm_bin _) <| fc (fm_push _ _) <| fc (fm_bin _) <| fc (fm_ifne _) <| fc fm_no <| fc fm_no <| fc (fm_iload _ _) <| fc (fm_push _ _) <| fc (fm_iload _ _) <| fc fm_no <| fc (fm_bin _) <| fc (fm_bin _) <| fc (fm_istore _ _) <| fc (fm_iinc _ _) <| fc fm_no <| fc fm_no <| fc (fm_goto _) <| fc fm_no <| fc fm_no <| fc (fm_iload _ _) <| fc fm_iret <| fc_0
-- 11: SecondOboe$Evening.comeAfter(LSecondOboe$Band;II)I
def k11 : List Step := [s_push 0 1, s_istore 4 2, s_no, s_push 0 1, s_istore 5 2, s_no, s_iload 5 2, s_no, s_aload 1 1, s_getI 0 3, s_no, s_no, s_icge 105, s_no, s_no, s_aload 1 1, s_getR 0 0, s_no, s_no, s_iload 5 2, s_no, s_iald, s_istore 6 2, s_no, s_iload 6 2, s_no, s_push 1 1, s_icgt 33, s_no, s_no, s_goto 99, s_no, s_no, s_iload 6 2, s_no, s_push 2 1, s_icne 62, s_no, s_no, s_iload 3 1, s_aload 1 1, s_getR 0 1, s_no, s_no, s_iload 5 2, s_no, s_iald, s_bin bsr, s_push 1 1, s_bin ban, s_push 1 1, s_icne 58, s_no, s_no, s_push 1 1, s_goto 79, s_no, s_no, s_push 0 1, s_goto 79, s_no, s_no, s_iload 3 1, s_aload 0 1, s_getR 1 0, s_no, s_no, s_iload 5 2, s_no, s_iald, s_bin ban, s_ifne 78, s_no, s_no, s_push 1 1, s_goto 79, s_no, s_no, s_push 0 1, s_istore 7 2, s_no, s_iload 7 2, s_no, s_ifne 90, s_no, s_no, s_iload 2 1, s_ifne 99, s_no, s_no, s_iload 4 2, s_no, s_push 1 1, s_iload 5 2, s_no, s_bin bsl, s_bin bor, s_istore 4 2, s_no, s_iinc 5 1, s_no, s_no, s_goto 6, s_no, s_no, s_iload 4 2, s_no, s_iret]
set_option maxRecDepth 100000 in
theorem f11 : ∀ s ∈ k11, Form s := fc (fm_push _ _) <| fc (fm_istore _ _) <| fc fm_no <| fc (fm_push _ _) <| fc (fm_istore _ _) <| fc fm_no <| fc (fm_iload _ _) <| fc fm_no <| fc (fm_aload _ _) <| fc (fm_getI _ _) <| fc fm_no <| fc fm_no <| fc (fm_icge _) <| fc fm_no <| fc fm_no <| fc (fm_aload _ _) <| fc (fm_getR _ _) <| fc fm_no <| fc fm_no <| fc (fm_iload _ _) <| fc fm_no <| fc fm_iald <| fc (fm_istore _ _) <| fc fm_no <| fc (fm_iload _ _) <| fc fm_no <| fc (fm_push _ _) <| fc (fm_icgt _) <| fc fm_no <| fc fm_no <| fc (fm_goto _) <| fc fm_no <| fc fm_no <| fc (fm_iload _ _) <| fc fm_no <| fc (fm_push _ _) <| fc (fm_icne _) <| fc fm_no <| fc fm_no <| fc (fm_iload _ _) <| fc (fm_aload _ _) <| fc (fm_getR _ _) <| fc fm_no <| fc fm_no <| fc (fm_iload _ _) <| fc fm_no <| fc fm_iald <| fc (fm_bin _) <| fc (fm_push _ _) <| fc (fm_bin _) <| fc (fm_push _ _) <| fc (fm_icne _) <| fc fm_no <| fc fm_no <| fc (fm_push _ _) <| fc (fm_goto _) <| fc fm_no <| fc fm_no <| fc (fm_push _ _) <| fc (fm_goto _) <| fc fm_no <| fc fm_no <| fc (fm_iload _ _) <| fc (fm_aload _ _) <| fc (fm_getR _ _) <| fc fm_no <| fc fm_no <| fc (fm_iload _ _) <| fc fm_no <| fc fm_iald <| fc (fm_bin _) <| fc (fm_ifne _) <| fc fm_no <| fc fm_no <| fc (fm_push _ _) <| fc (fm_goto _) <| fc fm_no <| fc fm_no <| fc (fm_push _ _) <| fc (fm_istore _ _) <| fc fm_no <| fc (fm_iload _ _) <| fc fm_no <| fc (fm_ifne _) <| fc fm_no <| fc fm_no <| fc (fm_iload _ _) <| fc (fm_ifne _) <| fc fm_no <| fc fm_no <| fc (fm_iload _ _) <| fc fm_no <| fc (fm_push _ _) <| fc (fm_iload _ _) <| fc fm_no <| fc (fm_bin _) <| fc (fm_bin _) <| fc (fm_istore _ _) <| fc fm_no <| fc (fm_iinc _ _) <| fc fm_no <| fc fm_no <| fc (fm_goto _) <| fc fm_no <| fc fm_no <| fc (fm_iload _ _) <| fc fm_no <| fc fm_iret <| fc_0
-- 12: java/lang/Integer.bitCount(I)I
def k12 : List Step := [s_iload 0 1, s_iload 0 1, s_push 1 1, s_bin bus, s_push 1431655765 3, s_no, s_no, s_bin ban, s_bin iSu, s_istore 0 1, s_iload 0 1, s_push 858993459 3, s_no, s_no, s_bin ban, s_iload 0 1, s_push 2 1, s_bin bus, s_push 858993459 3, s_no, s_no, s_bin ban, s_bin iAd, s_istore 0 1, s_iload 0 1, s_iload 0 1, s_push 4 1, s_bin bus, s_bin iAd, s_push 252645135 3, s_no, s_no, s_bin ban, s_istore 0 1, s_iload 0 1, s_iload 0 1, s_push 8 2, s_no, s_bin bus, s_bin iAd, s_istore 0 1, s_iload 0 1, s_iload 0 1, s_push 16 2, s_no, s_bin bus, s_bin iAd, s_istore 0 1, s_iload 0 1, s_push 63 2, s_no, s_bin ban, s_iret]
set_option maxRecDepth 100000 in
theorem f12 : ∀ s ∈ k12, Form s := fc (fm_iload _ _) <| fc (fm_iload _ _) <| fc (fm_push _ _) <| fc (fm_bin _) <| fc (fm_push _ _) <| fc fm_no <| fc fm_no <| fc (fm_bin _) <| fc (fm_bin _) <| fc (fm_istore _ _) <| fc (fm_iload _ _) <| fc (fm_push _ _) <| fc fm_no <| fc fm_no <| fc (fm_bin _) <| fc (fm_iload _ _) <| fc (fm_push _ _) <| fc (fm_bin _) <| fc (fm_push _ _) <| fc fm_no <| fc fm_no <| fc (fm_bin _) <| fc (fm_bin _) <| fc (fm_istore _ _) <| fc (fm_iload _ _) <| fc (fm_iload _ _) <| fc (fm_push _ _) <| fc (fm_bin _) <| fc (fm_bin _) <| fc (fm_push _ _) <| fc fm_no <| fc fm_no <| fc (fm_bin _) <| fc (fm_istore _ _) <| fc (fm_iload _ _) <| fc (fm_iload _ _) <| fc (fm_push _ _) <| fc fm_no <| fc (fm_bin _) <| fc (fm_bin _) <| fc (fm_istore _ _) <| fc (fm_iload _ _) <| fc (fm_iload _ _) <| fc (fm_push _ _) <| fc fm_no <| fc (fm_bin _) <| fc (fm_bin _) <| fc (fm_istore _ _) <| fc (fm_iload _ _) <| fc (fm_push _ _) <| fc fm_no <| fc (fm_bin _) <| fc fm_iret <| fc_0
-- 13: SecondOboe$Evening.playAll(LSecondOboe$Band;[IIII)V
def k13 : List Step := [s_aload 0 1, s_aload 1 1, s_getI 0 3, s_no, s_no, s_aload 2 1, s_iload 3 1, s_call 1 3 (s_scallV 9 4), s_no, s_no, s_aload 0 1, s_aload 1 1, s_iload 4 2, s_no, s_call 1 2 (s_scallI 10 3), s_no, s_no, s_istore 6 2, s_no, s_push 0 1, s_istore 7 2, s_no, s_aload 0 1, s_push 0 1, s_putI 1 2, s_no, s_no, s_aload 0 1, s_push 0 1, s_putI 1 3, s_no, s_no, s_push 0 1, s_istore 8 2, s_no, s_iload 8 2, s_no, s_aload 1 1, s_getI 0 5, s_no, s_no, s_icge 123, s_no, s_no, s_aload 1 1, s_getR 0 4, s_no, s_no, s_iload 8 2, s_no, s_iald, s_iload 5 2, s_no, s_bin ban, s_istore 9 2, s_no, s_iload 9 2, s_no, s_iload 6 2, s_no, s_aload 0 1, s_aload 1 1, s_iload 8 2, s_no, s_iload 7 2, s_no, s_call 1 3 (s_scallI 11 4), s_no, s_no, s_bin bor, s_bin ban, s_istore 7 2, s_no, s_aload 0 1, s_getR 1 1, s_no, s_no, s_iload 8 2, s_no, s_iload 7 2, s_no, s_iast, s_aload 0 1, s_dup, s_getI 1 2, s_no, s_no, s_iload 7 2, s_no, s_scallI 12 1, s_no, s_no, s_bin iAd, s_putI 1 2, s_no, s_no, s_aload 0 1, s_dup, s_getI 1 3, s_no, s_no, s_iload 7 2, s_no, s_iload 9 2, s_no, s_icne 112, s_no, s_no, s_push 1 1, s_goto 113, s_no, s_no, s_push 0 1, s_bin iAd, s_putI 1 3, s_no, s_no, s_iinc 8 1, s_no, s_no, s_goto 35, s_no, s_no, s_vret]
set_option maxRecDepth 100000 in
theorem f13 : ∀ s ∈ k13, Form s := fc (fm_aload _ _) <| fc (fm_aload _ _) <| fc (fm_getI _ _) <| fc fm_no <| fc fm_no <| fc (fm_aload _ _) <| fc (fm_iload _ _) <| fc (fm_call _ _ _ (fm_scallV _ _)) <| fc fm_no <| fc fm_no <| fc (fm_aload _ _) <| fc (fm_aload _ _) <| fc (fm_iload _ _) <| fc fm_no <| fc (fm_call _ _ _ (fm_scallI _ _)) <| fc fm_no <| fc fm_no <| fc (fm_istore _ _) <| fc fm_no <| fc (fm_push _ _) <| fc (fm_istore _ _) <| fc fm_no <| fc (fm_aload _ _) <| fc (fm_push _ _) <| fc (fm_putI _ _ (by decide)) <| fc fm_no <| fc fm_no <| fc (fm_aload _ _) <| fc (fm_push _ _) <| fc (fm_putI _ _ (by decide)) <| fc fm_no <| fc fm_no <| fc (fm_push _ _) <| fc (fm_istore _ _) <| fc fm_no <| fc (fm_iload _ _) <| fc fm_no <| fc (fm_aload _ _) <| fc (fm_getI _ _) <| fc fm_no <| fc fm_no <| fc (fm_icge _) <| fc fm_no <| fc fm_no <| fc (fm_aload _ _) <| fc (fm_getR _ _) <| fc fm_no <| fc fm_no <| fc (fm_iload _ _) <| fc fm_no <| fc fm_iald <| fc (fm_iload _ _) <| fc fm_no <| fc (fm_bin _) <| fc (fm_istore _ _) <| fc fm_no <| fc (fm_iload _ _) <| fc fm_no <| fc (fm_iload _ _) <| fc fm_no <| fc (fm_aload _ _) <| fc (fm_aload _ _) <| fc (fm_iload _ _) <| fc fm_no <| fc (fm_iload _ _) <| fc fm_no <| fc (fm_call _ _ _ (fm_scallI _ _)) <| fc fm_no <| fc fm_no <| fc (fm_bin _) <| fc (fm_bin _) <| fc (fm_istore _ _) <| fc fm_no <| fc (fm_aload _ _) <| fc (fm_getR _ _) <| fc fm_no <| fc fm_no <| fc (fm_iload _ _) <| fc fm_no <| fc (fm_iload _ _) <| fc fm_no <| fc fm_iast <| fc (fm_aload _ _) <| fc fm_dup <| fc (fm_getI _ _) <| fc fm_no <| fc fm_no <| fc (fm_iload _ _) <| fc fm_no <| fc (fm_scallI _ _) <| fc fm_no <| fc fm_no <| fc (fm_bin _) <| fc (fm_putI _ _ (by decide)) <| fc fm_no <| fc fm_no <| fc (fm_aload _ _) <| fc fm_dup <| fc (fm_getI _ _) <| fc fm_no <| fc fm_no <| fc (fm_iload _ _) <| fc fm_no <| fc (fm_iload _ _) <| fc fm_no <| fc (fm_icne _) <| fc fm_no <| fc fm_no <| fc (fm_push _ _) <| fc (fm_goto _) <| fc fm_no <| fc fm_no <| fc (fm_push _ _) <| fc (fm_bin _) <| fc (fm_putI _ _ (by decide)) <| fc fm_no <| fc fm_no <| fc (fm_iinc _ _) <| fc fm_no <| fc fm_no <| fc (fm_goto _) <| fc fm_no <| fc fm_no <| fc fm_vret <| fc_0
-- 14: SecondOboe$Reader.append(C)Z
def k14 : List Step := [s_aload 0 1, s_getI 2 1, s_no, s_no, s_push 200 3, s_no, s_no, s_iclt 12, s_no, s_no, s_push 0 1, s_zret, s_aload 0 1, s_getR 2 2, s_no, s_no, s_aload 0 1, s_getI 2 1, s_no, s_no, s_iload 1 1, s_cast, s_aload 0 1, s_dup, s_getI 2 1, s_no, s_no, s_push 1 1, s_bin iAd, s_putI 2 1, s_no, s_no, s_push 1 1, s_zret]
set_option maxRecDepth 100000 in
theorem f14 : ∀ s ∈ k14, Form s := fc (fm_aload _ _) <| fc (fm_getI _ _) <| fc fm_no <| fc fm_no <| fc (fm_push _ _) <| fc fm_no <| fc fm_no <| fc (fm_iclt _) <| fc fm_no <| fc fm_no <| fc (fm_push _ _) <| fc fm_zret <| fc (fm_aload _ _) <| fc (fm_getR _ _) <| fc fm_no <| fc fm_no <| fc (fm_aload _ _) <| fc (fm_getI _ _) <| fc fm_no <| fc fm_no <| fc (fm_iload _ _) <| fc fm_cast <| fc (fm_aload _ _) <| fc fm_dup <| fc (fm_getI _ _) <| fc fm_no <| fc fm_no <| fc (fm_push _ _) <| fc (fm_bin _) <| fc (fm_putI _ _ (by decide)) <| fc fm_no <| fc fm_no <| fc (fm_push _ _) <| fc fm_zret <| fc_0
-- 15: SecondOboe$Reader.numbersBehind(I)I
def k15 : List Step := [s_iload 0 1, s_switch [(98, 46), (103, 50), (105, 44), (115, 48)] 52, s_no, s_no, s_no, s_no, s_no, s_no, s_no, s_no, s_no, s_no, s_no, s_no, s_no, s_no, s_no, s_no, s_no, s_no, s_no, s_no, s_no, s_no, s_no, s_no, s_no, s_no, s_no, s_no, s_no, s_no, s_no, s_no, s_no, s_no, s_no, s_no, s_no, s_no, s_no, s_no, s_no, s_no, s_push 3 1, s_iret, s_push 2 1, s_iret, s_push 1 1, s_iret, s_push 1 1, s_iret, s_push 0 1, s_iret]
set_option maxRecDepth 100000 in
theorem f15 : ∀ s ∈ k15, Form s := fc (fm_iload _ _) <| fc (fm_switch _ _) <| fc fm_no <| fc fm_no <| fc fm_no <| fc fm_no <| fc fm_no <| fc fm_no <| fc fm_no <| fc fm_no <| fc fm_no <| fc fm_no <| fc fm_no <| fc fm_no <| fc fm_no <| fc fm_no <| fc fm_no <| fc fm_no <| fc fm_no <| fc fm_no <| fc fm_no <| fc fm_no <| fc fm_no <| fc fm_no <| fc fm_no <| fc fm_no <| fc fm_no <| fc fm_no <| fc fm_no <| fc fm_no <| fc fm_no <| fc fm_no <| fc fm_no <| fc fm_no <| fc fm_no <| fc fm_no <| fc fm_no <| fc fm_no <| fc fm_no <| fc fm_no <| fc fm_no <| fc fm_no <| fc fm_no <| fc fm_no <| fc (fm_push _ _) <| fc fm_iret <| fc (fm_push _ _) <| fc fm_iret <| fc (fm_push _ _) <| fc fm_iret <| fc (fm_push _ _) <| fc fm_iret <| fc (fm_push _ _) <| fc fm_iret <| fc_0
-- 16: SecondOboe$Reader.letterAt(I)C
def k16 : List Step := [s_iload 1 1, s_iflt 21, s_no, s_no, s_iload 1 1, s_aload 0 1, s_getI 2 1, s_no, s_no, s_icge 21, s_no, s_no, s_aload 0 1, s_getR 2 2, s_no, s_no, s_iload 1 1, s_cald, s_goto 22, s_no, s_no, s_push 0 1, s_cret]
set_option maxRecDepth 100000 in
theorem f16 : ∀ s ∈ k16, Form s := fc (fm_iload _ _) <| fc (fm_iflt _) <| fc fm_no <| fc fm_no <| fc (fm_iload _ _) <| fc (fm_aload _ _) <| fc (fm_getI _ _) <| fc fm_no <| fc fm_no <| fc (fm_icge _) <| fc fm_no <| fc fm_no <| fc (fm_aload _ _) <| fc (fm_getR _ _) <| fc fm_no <| fc fm_no <| fc (fm_iload _ _) <| fc fm_cald <| fc (fm_goto _) <| fc fm_no <| fc fm_no <| fc (fm_push _ _) <| fc fm_cret <| fc_0
-- 17: SecondOboe$Reader.isFigure(C)Z
def k17 : List Step := [s_iload 0 1, s_push 48 2, s_no, s_iclt 16, s_no, s_no, s_iload 0 1, s_push 57 2, s_no, s_icgt 16, s_no, s_no, s_push 1 1, s_goto 17, s_no, s_no, s_push 0 1, s_zret]
set_option maxRecDepth 100000 in
theorem f17 : ∀ s ∈ k17, Form s := fc (fm_iload _ _) <| fc (fm_push _ _) <| fc fm_no <| fc (fm_iclt _) <| fc fm_no <| fc fm_no <| fc (fm_iload _ _) <| fc (fm_push _ _) <| fc fm_no <| fc (fm_icgt _) <| fc fm_no <| fc fm_no <| fc (fm_push _ _) <| fc (fm_goto _) <| fc fm_no <| fc fm_no <| fc (fm_push _ _) <| fc fm_zret <| fc_0
-- 18: SecondOboe$Reader.figuresAt(I)I
def k18 : List Step := [s_aload 0 1, s_iload 1 1, s_call 2 1 (s_scallI 16 2), s_no, s_no, s_scallI 17 1, s_no, s_no, s_ifne 13, s_no, s_no, s_push 0 1, s_iret, s_aload 0 1, s_iload 1 1, s_push 1 1, s_bin iAd, s_call 2 1 (s_scallI 16 2), s_no, s_no, s_scallI 17 1, s_no, s_no, s_ifeq 30, s_no, s_no, s_push 2 1, s_goto 31, s_no, s_no, s_push 1 1, s_iret]
set_option maxRecDepth 100000 in
theorem f18 : ∀ s ∈ k18, Form s := fc (fm_aload _ _) <| fc (fm_iload _ _) <| fc (fm_call _ _ _ (fm_scallI _ _)) <| fc fm_no <| fc fm_no <| fc (fm_scallI _ _) <| fc fm_no <| fc fm_no <| fc (fm_ifne _) <| fc fm_no <| fc fm_no <| fc (fm_push _ _) <| fc fm_iret <| fc (fm_aload _ _) <| fc (fm_iload _ _) <| fc (fm_push _ _) <| fc (fm_bin _) <| fc (fm_call _ _ _ (fm_scallI _ _)) <| fc fm_no <| fc fm_no <| fc (fm_scallI _ _) <| fc fm_no <| fc fm_no <| fc (fm_ifeq _) <| fc fm_no <| fc fm_no <| fc (fm_push _ _) <| fc (fm_goto _) <| fc fm_no <| fc fm_no <| fc (fm_push _ _) <| fc fm_iret <| fc_0
-- 19: SecondOboe$Reader.numberAt(II)I
def k19 : List Step := [s_aload 0 1, s_iload 1 1, s_call 2 1 (s_scallI 16 2), s_no, s_no, s_push 48 2, s_no, s_bin iSu, s_istore 3 1, s_iload 2 1, s_push 1 1, s_icne 18, s_no, s_no, s_iload 3 1, s_goto 33, s_no, s_no, s_push 10 2, s_no, s_iload 3 1, s_bin iMu, s_aload 0 1, s_iload 1 1, s_push 1 1, s_bin iAd, s_call 2 1 (s_scallI 16 2), s_no, s_no, s_bin iAd, s_push 48 2, s_no, s_bin iSu, s_iret]
set_option maxRecDepth 100000 in
theorem f19 : ∀ s ∈ k19, Form s := fc (fm_aload _ _) <| fc (fm_iload _ _) <| fc (fm_call _ _ _ (fm_scallI _ _)) <| fc fm_no <| fc fm_no <| fc (fm_push _ _) <| fc fm_no <| fc (fm_bin _) <| fc (fm_istore _ _) <| fc (fm_iload _ _) <| fc (fm_push _ _) <| fc (fm_icne _) <| fc fm_no <| fc fm_no <| fc (fm_iload _ _) <| fc (fm_goto _) <| fc fm_no <| fc fm_no <| fc (fm_push _ _) <| fc fm_no <| fc (fm_iload _ _) <| fc (fm_bin _) <| fc (fm_aload _ _) <| fc (fm_iload _ _) <| fc (fm_push _ _) <| fc (fm_bin _) <| fc (fm_call _ _ _ (fm_scallI _ _)) <| fc fm_no <| fc fm_no <| fc (fm_bin _) <| fc (fm_push _ _) <| fc fm_no <| fc (fm_bin _) <| fc fm_iret <| fc_0
-- 20: SecondOboe$Reader.endOfItem(I)I
def k20 : List Step := [s_aload 0 1, s_getR 2 2, s_no, s_no, s_iload 1 1, s_cald, s_scallI 15 1, s_no, s_no, s_istore 2 1, s_iload 1 1, s_push 1 1, s_bin iAd, s_istore 3 1, s_push 0 1, s_istore 4 2, s_no, s_iload 4 2, s_no, s_iload 2 1, s_icge 94, s_no, s_no, s_aload 0 1, s_iload 3 1, s_call 2 1 (s_scallI 18 2), s_no, s_no, s_istore 5 2, s_no, s_iload 4 2, s_no, s_push 1 1, s_bin iAd, s_iload 2 1, s_icge 43, s_no, s_no, s_push 44 2, s_no, s_goto 45, s_no, s_no, s_push 59 2, s_no, s_istore 6 2, s_no, s_iload 5 2, s_no, s_ifeq 65, s_no, s_no, s_aload 0 1, s_iload 3 1, s_iload 5 2, s_no, s_bin iAd, s_call 2 1 (s_scallI 16 2), s_no, s_no, s_iload 6 2, s_no, s_iceq 67, s_no, s_no, s_iload 1 1, s_iret, s_aload 0 1, s_getR 2 3, s_no, s_no, s_iload 4 2, s_no, s_aload 0 1, s_iload 3 1, s_iload 5 2, s_no, s_call 2 2 (s_scallI 19 3), s_no, s_no, s_iast, s_iload 3 1, s_iload 5 2, s_no, s_push 1 1, s_bin iAd, s_bin iAd, s_istore 3 1, s_iinc 4 1, s_no, s_no, s_goto 17, s_no, s_no, s_iload 2 1, s_ifne 102, s_no, s_no, s_iload 1 1, s_goto 103, s_no, s_no, s_iload 3 1, s_iret]
set_option maxRecDepth 100000 in
theorem f20 : ∀ s ∈ k20, Form s := fc (fm_aload _ _) <| fc (fm_getR _ _) <| fc fm_no <| fc fm_no <| fc (fm_iload _ _) <| fc fm_cald <| fc (fm_scallI _ _) <| fc fm_no <| fc fm_no <| fc (fm_istore _ _) <| fc (fm_iload _ _) <| fc (fm_push _ _) <| fc (fm_bin _) <| fc (fm_istore _ _) <| fc (fm_push _ _) <| fc (fm_istore _ _) <| fc fm_no <| fc (fm_iload _ _) <| fc fm_no <| fc (fm_iload _ _) <| fc (fm_icge _) <| fc fm_no <| fc fm_no <| fc (fm_aload _ _) <| fc (fm_iload _ _) <| fc (fm_call _ _ _ (fm_scallI _ _)) <| fc fm_no <| fc fm_no <| fc (fm_istore _ _) <| fc fm_no <| fc (fm_iload _ _) <| fc fm_no <| fc (fm_push _ _) <| fc (fm_bin _) <| fc (fm_iload _ _) <| fc (fm_icge _) <| fc fm_no <| fc fm_no <| fc (fm_push _ _) <| fc fm_no <| fc (fm_goto _) <| fc fm_no <| fc fm_no <| fc (fm_push _ _) <| fc fm_no <| fc (fm_istore _ _) <| fc fm_no <| fc (fm_iload _ _) <| fc fm_no <| fc (fm_ifeq _) <| fc fm_no <| fc fm_no <| fc (fm_aload _ _) <| fc (fm_iload _ _) <| fc (fm_iload _ _) <| fc fm_no <| fc (fm_bin _) <| fc (fm_call _ _ _ (fm_scallI _ _)) <| fc fm_no <| fc fm_no <| fc (fm_iload _ _) <| fc fm_no <| fc (fm_iceq _) <| fc fm_no <| fc fm_no <| fc (fm_iload _ _) <| fc fm_iret <| fc (fm_aload _ _) <| fc (fm_getR _ _) <| fc fm_no <| fc fm_no <| fc (fm_iload _ _) <| fc fm_no <| fc (fm_aload _ _) <| fc (fm_iload _ _) <| fc (fm_iload _ _) <| fc fm_no <| fc (fm_call _ _ _ (fm_scallI _ _)) <| fc fm_no <| fc fm_no <| fc fm_iast <| fc (fm_iload _ _) <| fc (fm_iload _ _) <| fc fm_no <| fc (fm_push _ _) <| fc (fm_bin _) <| fc (fm_bin _) <| fc (fm_istore _ _) <| fc (fm_iinc _ _) <| fc fm_no <| fc fm_no <| fc (fm_goto _) <| fc fm_no <| fc fm_no <| fc (fm_iload _ _) <| fc (fm_ifne _) <| fc fm_no <| fc fm_no <| fc (fm_iload _ _) <| fc (fm_goto _) <| fc fm_no <| fc fm_no <| fc (fm_iload _ _) <| fc fm_iret <| fc_0
-- 21: SecondOboe$Reader.takeItem(I)Z
def k21 : List Step := [s_iload 1 1, s_switch [(98, 70), (103, 104), (105, 44), (115, 90)] 118, s_no, s_no, s_no, s_no, s_no, s_no, s_no, s_no, s_no, s_no, s_no, s_no, s_no, s_no, s_no, s_no, s_no, s_no, s_no, s_no, s_no, s_no, s_no, s_no, s_no, s_no, s_no, s_no, s_no, s_no, s_no, s_no, s_no, s_no, s_no, s_no, s_no, s_no, s_no, s_no, s_no, s_no, s_aload 0 1, s_getR 2 0, s_no, s_no, s_aload 0 1, s_getR 2 3, s_no, s_no, s_push 0 1, s_iald, s_aload 0 1, s_getR 2 3, s_no, s_no, s_push 1 1, s_iald, s_aload 0 1, s_getR 2 3, s_no, s_no, s_push 2 1, s_iald, s_call 0 3 (s_scallI 2 4), s_no, s_no, s_zret, s_aload 0 1, s_getR 2 0, s_no, s_no, s_aload 0 1, s_getR 2 3, s_no, s_no, s_push 0 1, s_iald, s_aload 0 1, s_getR 2 3, s_no, s_no, s_push 1 1, s_iald, s_call 0 2 (s_scallI 3 3), s_no, s_no, s_zret, s_aload 0 1, s_getR 2 0, s_no, s_no, s_aload 0 1, s_getR 2 3, s_no, s_no, s_push 0 1, s_iald, s_call 0 1 (s_scallI 5 2), s_no, s_no, s_zret, s_aload 0 1, s_getR 2 0, s_no, s_no, s_aload 0 1, s_getR 2 3, s_no, s_no, s_push 0 1, s_iald, s_call 0 1 (s_scallI 6 2), s_no, s_no, s_zret, s_push 0 1, s_zret]
set_option maxRecDepth 100000 in
theorem f21 : ∀ s ∈ k21, Form s := fc (fm_iload _ _) <| fc (fm_switch _ _) <| fc fm_no <| fc fm_no <| fc fm_no <| fc fm_no <| fc fm_no <| fc fm_no <| fc fm_no <| fc fm_no <| fc fm_no <| fc fm_no <| fc fm_no <| fc fm_no <| fc fm_no <| fc fm_no <| fc fm_no <| fc fm_no <| fc fm_no <| fc fm_no <| fc fm_no <| fc fm_no <| fc fm_no <| fc fm_no <| fc fm_no <| fc fm_no <| fc fm_no <| fc fm_no <| fc fm_no <| fc fm_no <| fc fm_no <| fc fm_no <| fc fm_no <| fc fm_no <| fc fm_no <| fc fm_no <| fc fm_no <| fc fm_no <| fc fm_no <| fc fm_no <| fc fm_no <| fc fm_no <| fc fm_no <| fc fm_no <| fc (fm_aload _ _) <| fc (fm_getR _ _) <| fc fm_no <| fc fm_no <| fc (fm_aload _ _) <| fc (fm_getR _ _) <| fc fm_no <| fc fm_no <| fc (fm_push _ _) <| fc fm_iald <| fc (fm_aload _ _) <| fc (fm_getR _ _) <| fc fm_no <| fc fm_no <| fc (fm_push _ _) <| fc fm_iald <| fc (fm_aload _ _) <| fc (fm_getR _ _) <| fc fm_no <| fc fm_no <| fc (fm_push _ _) <| fc fm_iald <| fc (fm_call _ _ _ (fm_scallI _ _)) <| fc fm_no <| fc fm_no <| fc fm_zret <| fc (fm_aload _ _) <| fc (fm_getR _ _) <| fc fm_no <| fc fm_no <| fc (fm_aload _ _) <| fc (fm_getR _ _) <| fc fm_no <| fc fm_no <| fc (fm_push _ _) <| fc fm_iald <| fc (fm_aload _ _) <| fc (fm_getR _ _) <| fc fm_no <| fc fm_no <| fc (fm_push _ _) <| fc fm_iald <| fc (fm_call _ _ _ (fm_scallI _ _)) <| fc fm_no <| fc fm_no <| fc fm_zret <| fc (fm_aload _ _) <| fc (fm_getR _ _) <| fc fm_no <| fc fm_no <| fc (fm_aload _ _) <| fc (fm_getR _ _) <| fc fm_no <| fc fm_no <| fc (fm_push _ _) <| fc fm_iald <| fc (fm_call _ _ _ (fm_scallI _ _)) <| fc fm_no <| fc fm_no <| fc fm_zret <| fc (fm_aload _ _) <| fc (fm_getR _ _) <| fc fm_no <| fc fm_no <| fc (fm_aload _ _) <| fc (fm_getR _ _) <| fc fm_no <| fc fm_no <| fc (fm_push _ _) <| fc fm_iald <| fc (fm_call _ _ _ (fm_scallI _ _)) <| fc fm_no <| fc fm_no <| fc fm_zret <| fc (fm_push _ _) <| fc fm_zret <| fc_0
-- 22: SecondOboe$Reader.readAll()I
def k22 : List Step := [s_aload 0 1, s_getR 2 0, s_no, s_no, s_call 0 0 (s_scallV 0 1), s_no, s_no, s_push 0 1, s_istore 1 1, s_iload 1 1, s_aload 0 1, s_getI 2 1, s_no, s_no, s_icge 48, s_no, s_no, s_aload 0 1, s_iload 1 1, s_call 2 1 (s_scallI 20 2), s_no, s_no, s_istore 2 1, s_iload 2 1, s_iload 1 1, s_icle 41, s_no, s_no, s_aload 0 1, s_aload 0 1, s_getR 2 2, s_no, s_no, s_iload 1 1, s_cald, s_call 2 1 (s_scallI 21 2), s_no, s_no, s_ifne 43, s_no, s_no, s_iload 1 1, s_iret, s_iload 2 1, s_istore 1 1, s_goto 9, s_no, s_no, s_push (-4) 2, s_no, s_iret]
set_option maxRecDepth 100000 in
theorem f22 : ∀ s ∈ k22, Form s := fc (fm_aload _ _) <| fc (fm_getR _ _) <| fc fm_no <| fc fm_no <| fc (fm_call _ _ _ (fm_scallV _ _)) <| fc fm_no <| fc fm_no <| fc (fm_push _ _) <| fc (fm_istore _ _) <| fc (fm_iload _ _) <| fc (fm_aload _ _) <| fc (fm_getI _ _) <| fc fm_no <| fc fm_no <| fc (fm_icge _) <| fc fm_no <| fc fm_no <| fc (fm_aload _ _) <| fc (fm_iload _ _) <| fc (fm_call _ _ _ (fm_scallI _ _)) <| fc fm_no <| fc fm_no <| fc (fm_istore _ _) <| fc (fm_iload _ _) <| fc (fm_iload _ _) <| fc (fm_icle _) <| fc fm_no <| fc fm_no <| fc (fm_aload _ _) <| fc (fm_aload _ _) <| fc (fm_getR _ _) <| fc fm_no <| fc fm_no <| fc (fm_iload _ _) <| fc fm_cald <| fc (fm_call _ _ _ (fm_scallI _ _)) <| fc fm_no <| fc fm_no <| fc (fm_ifne _) <| fc fm_no <| fc fm_no <| fc (fm_iload _ _) <| fc fm_iret <| fc (fm_iload _ _) <| fc (fm_istore _ _) <| fc (fm_goto _) <| fc fm_no <| fc fm_no <| fc (fm_push _ _) <| fc fm_no <| fc fm_iret <| fc_0
-- 23: java/util/Arrays.fill([II)V
def k23 : List Step := [s_push 0 1, s_istore 2 1, s_aload 0 1, s_alen, s_istore 3 1, s_iload 2 1, s_iload 3 1, s_icge 20, s_no, s_no, s_aload 0 1, s_iload 2 1, s_iload 1 1, s_iast, s_iinc 2 1, s_no, s_no, s_goto 5, s_no, s_no, s_vret]
set_option maxRecDepth 100000 in
theorem f23 : ∀ s ∈ k23, Form s := fc (fm_push _ _) <| fc (fm_istore _ _) <| fc (fm_aload _ _) <| fc fm_alen <| fc (fm_istore _ _) <| fc (fm_iload _ _) <| fc (fm_iload _ _) <| fc (fm_icge _) <| fc fm_no <| fc fm_no <| fc (fm_aload _ _) <| fc (fm_iload _ _) <| fc (fm_iload _ _) <| fc fm_iast <| fc (fm_iinc _ _) <| fc fm_no <| fc fm_no <| fc (fm_goto _) <| fc fm_no <| fc fm_no <| fc fm_vret <| fc_0
-- 24: SecondOboe$Survey.begin(I[I)V
def k24 : List Step := [s_aload 0 1, s_push 1 1, s_putI 3 1, s_no, s_no, s_push 0 1, s_istore 3 1, s_iload 3 1, s_iload 1 1, s_icge 46, s_no, s_no, s_aload 0 1, s_dup, s_getI 3 1, s_no, s_no, s_iload 3 1, s_push 1 1, s_bin iAd, s_bin iMu, s_putI 3 1, s_no, s_no, s_aload 0 1, s_getR 3 8, s_no, s_no, s_iload 3 1, s_iload 3 1, s_iast, s_aload 0 1, s_getR 3 9, s_no, s_no, s_aload 2 1, s_iload 3 1, s_iald, s_iload 3 1, s_iast, s_iinc 3 1, s_no, s_no, s_goto 7, s_no, s_no, s_aload 0 1, s_push 0 1, s_putI 3 2, s_no, s_no, s_aload 0 1, s_push 0 1, s_putI 3 3, s_no, s_no, s_aload 0 1, s_push (-4) 2, s_no, s_putI 3 4, s_no, s_no, s_aload 0 1, s_push (-1) 1, s_putI 3 5, s_no, s_no, s_aload 0 1, s_getR 3 7, s_no, s_no, s_push 0 1, s_scallV 23 2, s_no, s_no, s_vret]
set_option maxRecDepth 100000 in
theorem f24 : ∀ s ∈ k24, Form s := fc (fm_aload _ _) <| fc (fm_push _ _) <| fc (fm_putI _ _ (by decide)) <| fc fm_no <| fc fm_no <| fc (fm_push _ _) <| fc (fm_istore _ _) <| fc (fm_iload _ _) <| fc (fm_iload _ _) <| fc (fm_icge _) <| fc fm_no <| fc fm_no <| fc (fm_aload _ _) <| fc fm_dup <| fc (fm_getI _ _) <| fc fm_no <| fc fm_no <| fc (fm_iload _ _) <| fc (fm_push _ _) <| fc (fm_bin _) <| fc (fm_bin _) <| fc (fm_putI _ _ (by decide)) <| fc fm_no <| fc fm_no <| fc (fm_aload _ _) <| fc (fm_getR _ _) <| fc fm_no <| fc fm_no <| fc (fm_iload _ _) <| fc (fm_iload _ _) <| fc fm_iast <| fc (fm_aload _ _) <| fc (fm_getR _ _) <| fc fm_no <| fc fm_no <| fc (fm_aload _ _) <| fc (fm_iload _ _) <| fc fm_iald <| fc (fm_iload _ _) <| fc fm_iast <| fc (fm_iinc _ _) <| fc fm_no <| fc fm_no <| fc (fm_goto _) <| fc fm_no <| fc fm_no <| fc (fm_aload _ _) <| fc (fm_push _ _) <| fc (fm_putI _ _ (by decide)) <| fc fm_no <| fc fm_no <| fc (fm_aload _ _) <| fc (fm_push _ _) <| fc (fm_putI _ _ (by decide)) <| fc fm_no <| fc fm_no <| fc (fm_aload _ _) <| fc (fm_push _ _) <| fc fm_no <| fc (fm_putI _ _ (by decide)) <| fc fm_no <| fc fm_no <| fc (fm_aload _ _) <| fc (fm_push _ _) <| fc (fm_putI _ _ (by decide)) <| fc fm_no <| fc fm_no <| fc (fm_aload _ _) <| fc (fm_getR _ _) <| fc fm_no <| fc fm_no <| fc (fm_push _ _) <| fc (fm_scallV _ _) <| fc fm_no <| fc fm_no <| fc fm_vret <| fc_0
-- 25: SecondOboe$Survey.changesToTrial(I)I
def k25 : List Step := [s_push 0 1, s_istore 2 1, s_push 0 1, s_istore 3 1, s_push 0 1, s_istore 4 2, s_no, s_iload 4 2, s_no, s_iload 1 1, s_icge 85, s_no, s_no, s_iload 3 1, s_iload 2 1, s_iload 4 2, s_no, s_bin bsr, s_push 1 1, s_bin ban, s_ifne 27, s_no, s_no, s_push 1 1, s_goto 28, s_no, s_no, s_push 0 1, s_bin iAd, s_istore 3 1, s_iload 4 2, s_no, s_istore 5 2, s_no, s_push 0 1, s_istore 6 2, s_no, s_iload 6 2, s_no, s_iload 1 1, s_icge 79, s_no, s_no, s_iload 2 1, s_iload 5 2, s_no, s_bin bsr, s_push 1 1, s_bin ban, s_ifne 79, s_no, s_no, s_iload 2 1, s_push 1 1, s_iload 5 2, s_no, s_bin bsl, s_bin bor, s_istore 2 1, s_aload 0 1, s_getR 3 9, s_no, s_no, s_aload 0 1, s_getR 3 8, s_no, s_no, s_iload 5 2, s_no, s_iald, s_iald, s_istore 5 2, s_no, s_iinc 6 1, s_no, s_no, s_goto 37, s_no, s_no, s_iinc 4 1, s_no, s_no, s_goto 7, s_no, s_no, s_iload 1 1, s_iload 3 1, s_bin iSu, s_iret]
set_option maxRecDepth 100000 in
theorem f25 : ∀ s ∈ k25, Form s := fc (fm_push _ _) <| fc (fm_istore _ _) <| fc (fm_push _ _) <| fc (fm_istore _ _) <| fc (fm_push _ _) <| fc (fm_istore _ _) <| fc fm_no <| fc (fm_iload _ _) <| fc fm_no <| fc (fm_iload _ _) <| fc (fm_icge _) <| fc fm_no <| fc fm_no <| fc (fm_iload _ _) <| fc (fm_iload _ _) <| fc (fm_iload _ _) <| fc fm_no <| fc (fm_bin _) <| fc (fm_push _ _) <| fc (fm_bin _) <| fc (fm_ifne _) <| fc fm_no <| fc fm_no <| fc (fm_push _ _) <| fc (fm_goto _) <| fc fm_no <| fc fm_no <| fc (fm_push _ _) <| fc (fm_bin _) <| fc (fm_istore _ _) <| fc (fm_iload _ _) <| fc fm_no <| fc (fm_istore _ _) <| fc fm_no <| fc (fm_push _ _) <| fc (fm_istore _ _) <| fc fm_no <| fc (fm_iload _ _) <| fc fm_no <| fc (fm_iload _ _) <| fc (fm_icge _) <| fc fm_no <| fc fm_no <| fc (fm_iload _ _) <| fc (fm_iload _ _) <| fc fm_no <| fc (fm_bin _) <| fc (fm_push _ _) <| fc (fm_bin _) <| fc (fm_ifne _) <| fc fm_no <| fc fm_no <| fc (fm_iload _ _) <| fc (fm_push _ _) <| fc (fm_iload _ _) <| fc fm_no <| fc (fm_bin _) <| fc (fm_bin _) <| fc (fm_istore _ _) <| fc (fm_aload _ _) <| fc (fm_getR _ _) <| fc fm_no <| fc fm_no <| fc (fm_aload _ _) <| fc (fm_getR _ _) <| fc fm_no <| fc fm_no <| fc (fm_iload _ _) <| fc fm_no <| fc fm_iald <| fc fm_iald <| fc (fm_istore _ _) <| fc fm_no <| fc (fm_iinc _ _) <| fc fm_no <| fc fm_no <| fc (fm_goto _) <| fc fm_no <| fc fm_no <| fc (fm_iinc _ _) <| fc fm_no <| fc fm_no <| fc (fm_goto _) <| fc fm_no <| fc fm_no <| fc (fm_iload _ _) <| fc (fm_iload _ _) <| fc (fm_bin _) <| fc fm_iret <| fc_0
-- 26: SecondOboe$Survey.soundsAlike(ILSecondOboe$Evening;)Z
def k26 : List Step := [s_push 0 1, s_istore 3 1, s_iload 3 1, s_iload 1 1, s_icge 33, s_no, s_no, s_aload 0 1, s_getR 3 10, s_no, s_no, s_getR 1 1, s_no, s_no, s_iload 3 1, s_iald, s_aload 2 1, s_getR 1 1, s_no, s_no, s_iload 3 1, s_iald, s_iceq 27, s_no, s_no, s_push 0 1, s_zret, s_iinc 3 1, s_no, s_no, s_goto 2, s_no, s_no, s_push 1 1, s_zret]
set_option maxRecDepth 100000 in
theorem f26 : ∀ s ∈ k26, Form s := fc (fm_push _ _) <| fc (fm_istore _ _) <| fc (fm_iload _ _) <| fc (fm_iload _ _) <| fc (fm_icge _) <| fc fm_no <| fc fm_no <| fc (fm_aload _ _) <| fc (fm_getR _ _) <| fc fm_no <| fc fm_no <| fc (fm_getR _ _) <| fc fm_no <| fc fm_no <| fc (fm_iload _ _) <| fc fm_iald <| fc (fm_aload _ _) <| fc (fm_getR _ _) <| fc fm_no <| fc fm_no <| fc (fm_iload _ _) <| fc fm_iald <| fc (fm_iceq _) <| fc fm_no <| fc fm_no <| fc (fm_push _ _) <| fc fm_zret <| fc (fm_iinc _ _) <| fc fm_no <| fc fm_no <| fc (fm_goto _) <| fc fm_no <| fc fm_no <| fc (fm_push _ _) <| fc fm_zret <| fc_0
-- 27: SecondOboe.swapSeats([III)V
def k27 : List Step := [s_aload 0 1, s_iload 1 1, s_iald, s_istore 3 1, s_aload 0 1, s_iload 1 1, s_aload 0 1, s_iload 2 1, s_iald, s_iast, s_aload 0 1, s_iload 2 1, s_iload 3 1, s_iast, s_vret]
set_option maxRecDepth 100000 in
theorem f27 : ∀ s ∈ k27, Form s := fc (fm_aload _ _) <| fc (fm_iload _ _) <| fc fm_iald <| fc (fm_istore _ _) <| fc (fm_aload _ _) <| fc (fm_iload _ _) <| fc (fm_aload _ _) <| fc (fm_iload _ _) <| fc fm_iald <| fc fm_iast <| fc (fm_aload _ _) <| fc (fm_iload _ _) <| fc (fm_iload _ _) <| fc fm_iast <| fc fm_vret <| fc_0
-- 28: SecondOboe$Survey.goToNextSeating(I)V
def k28 : List Step := [s_iload 1 1, s_push 2 1, s_bin iSu, s_istore 2 1, s_iload 2 1, s_iflt 31, s_no, s_no, s_aload 0 1, s_getR 3 8, s_no, s_no, s_iload 2 1, s_iald, s_aload 0 1, s_getR 3 8, s_no, s_no, s_iload 2 1, s_push 1 1, s_bin iAd, s_iald, s_icle 31, s_no, s_no, s_iinc 2 (-1), s_no, s_no, s_goto 4, s_no, s_no, s_iload 2 1, s_ifge 36, s_no, s_no, s_vret, s_iload 1 1, s_push 1 1, s_bin iSu, s_istore 3 1, s_iload 3 1, s_iload 2 1, s_push 1 1, s_bin iAd, s_icle 68, s_no, s_no, s_aload 0 1, s_getR 3 8, s_no, s_no, s_iload 3 1, s_iald, s_aload 0 1, s_getR 3 8, s_no, s_no, s_iload 2 1, s_iald, s_icge 68, s_no, s_no, s_iinc 3 (-1), s_no, s_no, s_goto 40, s_no, s_no, s_aload 0 1, s_getR 3 8, s_no, s_no, s_iload 2 1, s_iload 3 1, s_scallV 27 3, s_no, s_no, s_iload 2 1, s_push 1 1, s_bin iAd, s_istore 4 2, s_no, s_iload 1 1, s_push 1 1, s_bin iSu, s_istore 5 2, s_no, s_iload 5 2, s_no, s_iload 4 2, s_no, s_icle 114, s_no, s_no, s_aload 0 1, s_getR 3 8, s_no, s_no, s_iload 4 2, s_no, s_iload 5 2, s_no, s_scallV 27 3, s_no, s_no, s_iinc 4 1, s_no, s_no, s_iinc 5 (-1), s_no, s_no, s_goto 87, s_no, s_no, s_vret]
set_option maxRecDepth 100000 in
theorem f28 : ∀ s ∈ k28, Form s := fc (fm_iload _ _) <| fc (fm_push _ _) <| fc (fm_bin _) <| fc (fm_istore _ _) <| fc (fm_iload _ _) <| fc (fm_iflt _) <| fc fm_no <| fc fm_no <| fc (fm_aload _ _) <| fc (fm_getR _ _) <| fc fm_no <| fc fm_no <| fc (fm_iload _ _) <| fc fm_iald <| fc (fm_aload _ _) <| fc (fm_getR _ _) <| fc fm_no <| fc fm_no <| fc (fm_iload _ _) <| fc (fm_push _ _) <| fc (fm_bin _) <| fc fm_iald <| fc (fm_icle _) <| fc fm_no <| fc fm_no <| fc (fm_iinc _ _) <| fc fm_no <| fc fm_no <| fc (fm_goto _) <| fc fm_no <| fc fm_no <| fc (fm_iload _ _) <| fc (fm_ifge _) <| fc fm_no <| fc fm_no <| fc fm_vret <| fc (fm_iload _ _) <| fc (fm_push _ _) <| fc (fm_bin _) <| fc (fm_istore _ _) <| fc (fm_iload _ _) <| fc (fm_iload _ _) <| fc (fm_push _ _) <| fc (fm_bin _) <| fc (fm_icle _) <| fc fm_no <| fc fm_no <| fc (fm_aload _ _) <| fc (fm_getR _ _) <| fc fm_no <| fc fm_no <| fc (fm_iload _ _) <| fc fm_iald <| fc (fm_aload _ _) <| fc (fm_getR _ _) <| fc fm_no <| fc fm_no <| fc (fm_iload _ _) <| fc fm_iald <| fc (fm_icge _) <| fc fm_no <| fc fm_no <| fc (fm_iinc _ _) <| fc fm_no <| fc fm_no <| fc (fm_goto _) <| fc fm_no <| fc fm_no <| fc (fm_aload _ _) <| fc (fm_getR _ _) <| fc fm_no <| fc fm_no <| fc (fm_iload _ _) <| fc (fm_iload _ _) <| fc (fm_scallV _ _) <| fc fm_no <| fc fm_no <| fc (fm_iload _ _) <| fc (fm_push _ _) <| fc (fm_bin _) <| fc (fm_istore _ _) <| fc fm_no <| fc (fm_iload _ _) <| fc (fm_push _ _) <| fc (fm_bin _) <| fc (fm_istore _ _) <| fc fm_no <| fc (fm_iload _ _) <| fc fm_no <| fc (fm_iload _ _) <| fc fm_no <| fc (fm_icle _) <| fc fm_no <| fc fm_no <| fc (fm_aload _ _) <| fc (fm_getR _ _) <| fc fm_no <| fc fm_no <| fc (fm_iload _ _) <| fc fm_no <| fc (fm_iload _ _) <| fc fm_no <| fc (fm_scallV _ _) <| fc fm_no <| fc fm_no <| fc (fm_iinc _ _) <| fc fm_no <| fc fm_no <| fc (fm_iinc _ _) <| fc fm_no <| fc fm_no <| fc (fm_goto _) <| fc fm_no <| fc fm_no <| fc fm_vret <| fc_0
-- 29: SecondOboe$Survey.lookAtAll(LSecondOboe$Band;[IILSecondOboe$Evening;)V
def k29 : List Step := [s_aload 0 1, s_aload 1 1, s_getI 0 3, s_no, s_no, s_aload 2 1, s_call 3 2 (s_scallV 24 3), s_no, s_no, s_push 0 1, s_istore 5 2, s_no, s_iload 5 2, s_no, s_aload 0 1, s_getI 3 1, s_no, s_no, s_icge 201, s_no, s_no, s_aload 0 1, s_getR 3 10, s_no, s_no, s_aload 1 1, s_aload 0 1, s_getR 3 8, s_no, s_no, s_aload 1 1, s_getI 0 8, s_no, s_no, s_iload 3 1, s_push 127 2, s_no, s_call 1 5 (s_scallV 13 6), s_no, s_no, s_aload 0 1, s_getR 3 7, s_no, s_no, s_aload 0 1, s_getR 3 10, s_no, s_no, s_getI 1 2, s_no, s_no, s_dup2, s_iald, s_push 1 1, s_bin iAd, s_iast, s_aload 0 1, s_getR 3 10, s_no, s_no, s_getI 1 2, s_no, s_no, s_aload 0 1, s_getI 3 5, s_no, s_no, s_icle 99, s_no, s_no, s_aload 0 1, s_aload 0 1, s_getR 3 10, s_no, s_no, s_getI 1 2, s_no, s_no, s_putI 3 5, s_no, s_no, s_aload 0 1, s_getR 3 8, s_no, s_no, s_push 0 1, s_aload 0 1, s_getR 3 6, s_no, s_no, s_push 0 1, s_aload 0 1, s_getR 3 8, s_no, s_no, s_alen, s_copy, s_no, s_no, s_aload 0 1, s_getR 3 10, s_no, s_no, s_getI 1 3, s_no, s_no, s_aload 1 1, s_getI 0 5, s_no, s_no, s_icne 160, s_no, s_no, s_aload 0 1, s_dup, s_getI 3 2, s_no, s_no, s_push 1 1, s_bin iAd, s_putI 3 2, s_no, s_no, s_aload 0 1, s_aload 1 1, s_getI 0 3, s_no, s_no, s_call 3 1 (s_scallI 25 2), s_no, s_no, s_istore 6 2, s_no, s_aload 0 1, s_aload 0 1, s_getI 3 4, s_no, s_no, s_push (-4) 2, s_no, s_icne 148, s_no, s_no, s_iload 6 2, s_no, s_goto 157, s_no, s_no, s_aload 0 1, s_getI 3 4, s_no, s_no, s_iload 6 2, s_no, s_min, s_no, s_no, s_putI 3 4, s_no, s_no, s_aload 0 1, s_dup, s_getI 3 3, s_no, s_no, s_aload 0 1, s_aload 1 1, s_getI 0 5, s_no, s_no, s_aload 4 2, s_no, s_call 3 2 (s_scallI 26 3), s_no, s_no, s_ifeq 182, s_no, s_no, s_push 1 1, s_goto 183, s_no, s_no, s_push 0 1, s_bin iAd, s_putI 3 3, s_no, s_no, s_aload 0 1, s_aload 1 1, s_getI 0 3, s_no, s_no, s_call 3 1 (s_scallV 28 2), s_no, s_no, s_iinc 5 1, s_no, s_no, s_goto 12, s_no, s_no, s_aload 0 1, s_push 1 1, s_putZ 3 0, s_no, s_no, s_vret]
set_option maxRecDepth 100000 in
theorem f29 : ∀ s ∈ k29, Form s := fc (fm_aload _ _) <| fc (fm_aload _ _) <| fc (fm_getI _ _) <| fc fm_no <| fc fm_no <| fc (fm_aload _ _) <| fc (fm_call _ _ _ (fm_scallV _ _)) <| fc fm_no <| fc fm_no <| fc (fm_push _ _) <| fc (fm_istore _ _) <| fc fm_no <| fc (fm_iload _ _) <| fc fm_no <| fc (fm_aload _ _) <| fc (fm_getI _ _) <| fc fm_no <| fc fm_no <| fc (fm_icge _) <| fc fm_no <| fc fm_no <| fc (fm_aload _ _) <| fc (fm_getR _ _) <| fc fm_no <| fc fm_no <| fc (fm_aload _ _) <| fc (fm_aload _ _) <| fc (fm_getR _ _) <| fc fm_no <| fc fm_no <| fc (fm_aload _ _) <| fc (fm_getI _ _) <| fc fm_no <| fc fm_no <| fc (fm_iload _ _) <| fc (fm_push _ _) <| fc fm_no <| fc (fm_call _ _ _ (fm_scallV _ _)) <| fc fm_no <| fc fm_no <| fc (fm_aload _ _) <| fc (fm_getR _ _) <| fc fm_no <| fc fm_no <| fc (fm_aload _ _) <| fc (fm_getR _ _) <| fc fm_no <| fc fm_no <| fc (fm_getI _ _) <| fc fm_no <| fc fm_no <| fc fm_dup2 <| fc fm_iald <| fc (fm_push _ _) <| fc (fm_bin _) <| fc fm_iast <| fc (fm_aload _ _) <| fc (fm_getR _ _) <| fc fm_no <| fc fm_no <| fc (fm_getI _ _) <| fc fm_no <| fc fm_no <| fc (fm_aload _ _) <| fc (fm_getI _ _) <| fc fm_no <| fc fm_no <| fc (fm_icle _) <| fc fm_no <| fc fm_no <| fc (fm_aload _ _) <| fc (fm_aload _ _) <| fc (fm_getR _ _) <| fc fm_no <| fc fm_no <| fc (fm_getI _ _) <| fc fm_no <| fc fm_no <| fc (fm_putI _ _ (by decide)) <| fc fm_no <| fc fm_no <| fc (fm_aload _ _) <| fc (fm_getR _ _) <| fc fm_no <| fc fm_no <| fc (fm_push _ _) <| fc (fm_aload _ _) <| fc (fm_getR _ _) <| fc fm_no <| fc fm_no <| fc (fm_push _ _) <| fc (fm_aload _ _) <| fc (fm_getR _ _) <| fc fm_no <| fc fm_no <| fc fm_alen <| fc fm_copy <| fc fm_no <| fc fm_no <| fc (fm_aload _ _) <| fc (fm_getR _ _) <| fc fm_no <| fc fm_no <| fc (fm_getI _ _) <| fc fm_no <| fc fm_no <| fc (fm_aload _ _) <| fc (fm_getI _ _) <| fc fm_no <| fc fm_no <| fc (fm_icne _) <| fc fm_no <| fc fm_no <| fc (fm_aload _ _) <| fc fm_dup <| fc (fm_getI _ _) <| fc fm_no <| fc fm_no <| fc (fm_push _ _) <| fc (fm_bin _) <| fc (fm_putI _ _ (by decide)) <| fc fm_no <| fc fm_no <| fc (fm_aload _ _) <| fc (fm_aload _ _) <| fc (fm_getI _ _) <| fc fm_no <| fc fm_no <| fc (fm_call _ _ _ (fm_scallI _ _)) <| fc fm_no <| fc fm_no <| fc (fm_istore _ _) <| fc fm_no <| fc (fm_aload _ _) <| fc (fm_aload _ _) <| fc (fm_getI _ _) <| fc fm_no <| fc fm_no <| fc (fm_push _ _) <| fc fm_no <| fc (fm_icne _) <| fc fm_no <| fc fm_no <| fc (fm_iload _ _) <| fc fm_no <| fc (fm_goto _) <| fc fm_no <| fc fm_no <| fc (fm_aload _ _) <| fc (fm_getI _ _) <| fc fm_no <| fc fm_no <| fc (fm_iload _ _) <| fc fm_no <| fc fm_min <| fc fm_no <| fc fm_no <| fc (fm_putI _ _ (by decide)) <| fc fm_no <| fc fm_no <| fc (fm_aload _ _) <| fc fm_dup <| fc (fm_getI _ _) <| fc fm_no <| fc fm_no <| fc (fm_aload _ _) <| fc (fm_aload _ _) <| fc (fm_getI _ _) <| fc fm_no <| fc fm_no <| fc (fm_aload _ _) <| fc fm_no <| fc (fm_call _ _ _ (fm_scallI _ _)) <| fc fm_no <| fc fm_no <| fc (fm_ifeq _) <| fc fm_no <| fc fm_no <| fc (fm_push _ _) <| fc (fm_goto _) <| fc fm_no <| fc fm_no <| fc (fm_push _ _) <| fc (fm_bin _) <| fc (fm_putI _ _ (by decide)) <| fc fm_no <| fc fm_no <| fc (fm_aload _ _) <| fc (fm_aload _ _) <| fc (fm_getI _ _) <| fc fm_no <| fc fm_no <| fc (fm_call _ _ _ (fm_scallV _ _)) <| fc fm_no <| fc fm_no <| fc (fm_iinc _ _) <| fc fm_no <| fc fm_no <| fc (fm_goto _) <| fc fm_no <| fc fm_no <| fc (fm_aload _ _) <| fc (fm_push _ _) <| fc (fm_putZ _ _ (by decide)) <| fc fm_no <| fc fm_no <| fc fm_vret <| fc_0
-- 30: SecondOboe.settle()V
def k30 : List Step := [s_aload 0 1, s_getR 4 4, s_no, s_no, s_aload 0 1, s_getR 4 1, s_no, s_no, s_aload 0 1, s_getR 4 2, s_no, s_no, s_aload 0 1, s_getR 4 1, s_no, s_no, s_getI 0 8, s_no, s_no, s_aload 0 1, s_getI 4 3, s_no, s_no, s_push 127 2, s_no, s_call 1 5 (s_scallV 13 6), s_no, s_no, s_aload 0 1, s_getR 4 5, s_no, s_no, s_push 0 1, s_putZ 3 0, s_no, s_no, s_vret]
set_option maxRecDepth 100000 in
theorem f30 : ∀ s ∈ k30, Form s := fc (fm_aload _ _) <| fc (fm_getR _ _) <| fc fm_no <| fc fm_no <| fc (fm_aload _ _) <| fc (fm_getR _ _) <| fc fm_no <| fc fm_no <| fc (fm_aload _ _) <| fc (fm_getR _ _) <| fc fm_no <| fc fm_no <| fc (fm_aload _ _) <| fc (fm_getR _ _) <| fc fm_no <| fc fm_no <| fc (fm_getI _ _) <| fc fm_no <| fc fm_no <| fc (fm_aload _ _) <| fc (fm_getI _ _) <| fc fm_no <| fc fm_no <| fc (fm_push _ _) <| fc fm_no <| fc (fm_call _ _ _ (fm_scallV _ _)) <| fc fm_no <| fc fm_no <| fc (fm_aload _ _) <| fc (fm_getR _ _) <| fc fm_no <| fc fm_no <| fc (fm_push _ _) <| fc (fm_putZ _ _ (by decide)) <| fc fm_no <| fc fm_no <| fc fm_vret <| fc_0
-- 31: SecondOboe.layText()Z
def k31 : List Step := [s_aload 0 1, s_getR 4 0, s_no, s_no, s_call 2 0 (s_scallI 22 1), s_no, s_no, s_push (-4) 2, s_no, s_icne 25, s_no, s_no, s_aload 0 1, s_getR 4 0, s_no, s_no, s_getR 2 0, s_no, s_no, s_call 0 0 (s_scallI 7 1), s_no, s_no, s_ifne 27, s_no, s_no, s_push 0 1, s_zret, s_aload 0 1, s_getR 4 1, s_no, s_no, s_aload 0 1, s_getR 4 0, s_no, s_no, s_getR 2 0, s_no, s_no, s_call 0 1 (s_scallV 1 2), s_no, s_no, s_aload 0 1, s_getR 4 1, s_no, s_no, s_aload 0 1, s_getR 4 2, s_no, s_no, s_call 0 1 (s_scallV 8 2), s_no, s_no, s_aload 0 1, s_push 0 1, s_putI 4 3, s_no, s_no, s_aload 0 1, s_push 0 1, s_putI 4 13, s_no, s_no, s_aload 0 1, s_push 0 1, s_putI 4 9, s_no, s_no, s_aload 0 1, s_push 0 1, s_putI 4 16, s_no, s_no, s_aload 0 1, s_call 4 0 (s_scallV 30 1), s_no, s_no, s_push 1 1, s_zret]
set_option maxRecDepth 100000 in
theorem f31 : ∀ s ∈ k31, Form s := fc (fm_aload _ _) <| fc (fm_getR _ _) <| fc fm_no <| fc fm_no <| fc (fm_call _ _ _ (fm_scallI _ _)) <| fc fm_no <| fc fm_no <| fc (fm_push _ _) <| fc fm_no <| fc (fm_icne _) <| fc fm_no <| fc fm_no <| fc (fm_aload _ _) <| fc (fm_getR _ _) <| fc fm_no <| fc fm_no <| fc (fm_getR _ _) <| fc fm_no <| fc fm_no <| fc (fm_call _ _ _ (fm_scallI _ _)) <| fc fm_no <| fc fm_no <| fc (fm_ifne _) <| fc fm_no <| fc fm_no <| fc (fm_push _ _) <| fc fm_zret <| fc (fm_aload _ _) <| fc (fm_getR _ _) <| fc fm_no <| fc fm_no <| fc (fm_aload _ _) <| fc (fm_getR _ _) <| fc fm_no <| fc fm_no <| fc (fm_getR _ _) <| fc fm_no <| fc fm_no <| fc (fm_call _ _ _ (fm_scallV _ _)) <| fc fm_no <| fc fm_no <| fc (fm_aload _ _) <| fc (fm_getR _ _) <| fc fm_no <| fc fm_no <| fc (fm_aload _ _) <| fc (fm_getR _ _) <| fc fm_no <| fc fm_no <| fc (fm_call _ _ _ (fm_scallV _ _)) <| fc fm_no <| fc fm_no <| fc (fm_aload _ _) <| fc (fm_push _ _) <| fc (fm_putI _ _ (by decide)) <| fc fm_no <| fc fm_no <| fc (fm_aload _ _) <| fc (fm_push _ _) <| fc (fm_putI _ _ (by decide)) <| fc fm_no <| fc fm_no <| fc (fm_aload _ _) <| fc (fm_push _ _) <| fc (fm_putI _ _ (by decide)) <| fc fm_no <| fc fm_no <| fc (fm_aload _ _) <| fc (fm_push _ _) <| fc (fm_putI _ _ (by decide)) <| fc fm_no <| fc fm_no <| fc (fm_aload _ _) <| fc (fm_call _ _ _ (fm_scallV _ _)) <| fc fm_no <| fc fm_no <| fc (fm_push _ _) <| fc fm_zret <| fc_0
-- 32: SecondOboe.<init>()V
def k32 : List Step := [s_no, s_no, s_no, s_no, s_no, s_no, s_no, s_no, s_no, s_no, s_no, s_no, s_no, s_no, s_no, s_no, s_no, s_no, s_no, s_no, s_no, s_no, s_no, s_no, s_no, s_no, s_no, s_no, s_no, s_no, s_no, s_no, s_no, s_no, s_no, s_no, s_no, s_no, s_no, s_no, s_no, s_no, s_no, s_no, s_no, s_no, s_no, s_no, s_no, s_no, s_no, s_no, s_no, s_no, s_no, s_no, s_no, s_no, s_no, s_no, s_no, s_no, s_no, s_no, s_no, s_no, s_no, s_no, s_no, s_no, s_no, s_no, s_no, s_no, s_no, s_no, s_no, s_no, s_no, s_no, s_no, s_no, s_no, s_no, s_no, s_no, s_no, s_no, s_no, s_no, s_no, s_no, s_no, s_no, s_no, s_no, s_no, s_no, s_no, s_no, s_no, s_no, s_no, s_no, s_no, s_no, s_no, s_no, s_no, s_no, s_no, s_no, s_no, s_no, s_no, s_no, s_no, s_no, s_no, s_no, s_no, s_no, s_no, s_no, s_no, s_push 0 1, s_istore 1 1, s_iload 1 1, s_ldstr, s_no, s_strlen, s_no, s_no, s_icge 156, s_no, s_no, s_aload 0 1, s_getR 4 0, s_no, s_no, s_ldstr, s_no, s_iload 1 1, s_strch, s_no, s_no, s_call 2 1 (s_scallI 14 2), s_no, s_no, s_pop, s_iinc 1 1, s_no, s_no, s_goto 127, s_no, s_no, s_aload 0 1, s_call 4 0 (s_scallI 31 1), s_no, s_no, s_pop, s_aload 0 1, s_getR 4 0, s_no, s_no, s_push 0 1, s_putI 2 1, s_no, s_no, s_vret]
set_option maxRecDepth 100000 in
theorem f32 : ∀ s ∈ k32, Form s := fc fm_no <| fc fm_no <| fc fm_no <| fc fm_no <| fc fm_no <| fc fm_no <| fc fm_no <| fc fm_no <| fc fm_no <| fc fm_no <| fc fm_no <| fc fm_no <| fc fm_no <| fc fm_no <| fc fm_no <| fc fm_no <| fc fm_no <| fc fm_no <| fc fm_no <| fc fm_no <| fc fm_no <| fc fm_no <| fc fm_no <| fc fm_no <| fc fm_no <| fc fm_no <| fc fm_no <| fc fm_no <| fc fm_no <| fc fm_no <| fc fm_no <| fc fm_no <| fc fm_no <| fc fm_no <| fc fm_no <| fc fm_no <| fc fm_no <| fc fm_no <| fc fm_no <| fc fm_no <| fc fm_no <| fc fm_no <| fc fm_no <| fc fm_no <| fc fm_no <| fc fm_no <| fc fm_no <| fc fm_no <| fc fm_no <| fc fm_no <| fc fm_no <| fc fm_no <| fc fm_no <| fc fm_no <| fc fm_no <| fc fm_no <| fc fm_no <| fc fm_no <| fc fm_no <| fc fm_no <| fc fm_no <| fc fm_no <| fc fm_no <| fc fm_no <| fc fm_no <| fc fm_no <| fc fm_no <| fc fm_no <| fc fm_no <| fc fm_no <| fc fm_no <| fc fm_no <| fc fm_no <| fc fm_no <| fc fm_no <| fc fm_no <| fc fm_no <| fc fm_no <| fc fm_no <| fc fm_no <| fc fm_no <| fc fm_no <| fc fm_no <| fc fm_no <| fc fm_no <| fc fm_no <| fc fm_no <| fc fm_no <| fc fm_no <| fc fm_no <| fc fm_no <| fc fm_no <| fc fm_no <| fc fm_no <| fc fm_no <| fc fm_no <| fc fm_no <| fc fm_no <| fc fm_no <| fc fm_no <| fc fm_no <| fc fm_no <| fc fm_no <| fc fm_no <| fc fm_no <| fc fm_no <| fc fm_no <| fc fm_no <| fc fm_no <| fc fm_no <| fc fm_no <| fc fm_no <| fc fm_no <| fc fm_no <| fc fm_no <| fc fm_no <| fc fm_no <| fc fm_no <| fc fm_no <| fc fm_no <| fc fm_no <| fc fm_no <| fc fm_no <| fc fm_no <| fc fm_no <| fc (fm_push _ _) <| fc (fm_istore _ _) <| fc (fm_iload _ _) <| fc fm_ldstr <| fc fm_no <| fc fm_strlen <| fc fm_no <| fc fm_no <| fc (fm_icge _) <| fc fm_no <| fc fm_no <| fc (fm_aload _ _) <| fc (fm_getR _ _) <| fc fm_no <| fc fm_no <| fc fm_ldstr <| fc fm_no <| fc (fm_iload _ _) <| fc fm_strch <| fc fm_no <| fc fm_no <| fc (fm_call _ _ _ (fm_scallI _ _)) <| fc fm_no <| fc fm_no <| fc fm_pop <| fc (fm_iinc _ _) <| fc fm_no <| fc fm_no <| fc (fm_goto _) <| fc fm_no <| fc fm_no <| fc (fm_aload _ _) <| fc (fm_call _ _ _ (fm_scallI _ _)) <| fc fm_no <| fc fm_no <| fc fm_pop <| fc (fm_aload _ _) <| fc (fm_getR _ _) <| fc fm_no <| fc fm_no <| fc (fm_push _ _) <| fc (fm_putI _ _ (by decide)) <| fc fm_no <| fc fm_no <| fc fm_vret <| fc_0
-- 33: SecondOboe.write(I)I
def k33 : List Step := [s_iload 1 1, s_push 32 2, s_no, s_iclt 12, s_no, s_no, s_iload 1 1, s_push 126 2, s_no, s_icle 14, s_no, s_no, s_push (-1) 1, s_iret, s_aload 0 1, s_getR 4 0, s_no, s_no, s_iload 1 1, s_i2c, s_call 2 1 (s_scallI 14 2), s_no, s_no, s_ifeq 36, s_no, s_no, s_aload 0 1, s_getR 4 0, s_no, s_no, s_getI 2 1, s_no, s_no, s_goto 38, s_no, s_no, s_push (-3) 2, s_no, s_iret]
set_option maxRecDepth 100000 in
theorem f33 : ∀ s ∈ k33, Form s := fc (fm_iload _ _) <| fc (fm_push _ _) <| fc fm_no <| fc (fm_iclt _) <| fc fm_no <| fc fm_no <| fc (fm_iload _ _) <| fc (fm_push _ _) <| fc fm_no <| fc (fm_icle _) <| fc fm_no <| fc fm_no <| fc (fm_push _ _) <| fc fm_iret <| fc (fm_aload _ _) <| fc (fm_getR _ _) <| fc fm_no <| fc fm_no <| fc (fm_iload _ _) <| fc fm_i2c <| fc (fm_call _ _ _ (fm_scallI _ _)) <| fc fm_no <| fc fm_no <| fc (fm_ifeq _) <| fc fm_no <| fc fm_no <| fc (fm_aload _ _) <| fc (fm_getR _ _) <| fc fm_no <| fc fm_no <| fc (fm_getI _ _) <| fc fm_no <| fc fm_no <| fc (fm_goto _) <| fc fm_no <| fc fm_no <| fc (fm_push _ _) <| fc fm_no <| fc fm_iret <| fc_0
-- 34: SecondOboe.wipe()I
def k34 : List Step := [s_aload 0 1, s_getR 4 0, s_no, s_no, s_getI 2 1, s_no, s_no, s_istore 1 1, s_aload 0 1, s_getR 4 0, s_no, s_no, s_push 0 1, s_putI 2 1, s_no, s_no, s_iload 1 1, s_iret]
set_option maxRecDepth 100000 in
theorem f34 : ∀ s ∈ k34, Form s := fc (fm_aload _ _) <| fc (fm_getR _ _) <| fc fm_no <| fc fm_no <| fc (fm_getI _ _) <| fc fm_no <| fc fm_no <| fc (fm_istore _ _) <| fc (fm_aload _ _) <| fc (fm_getR _ _) <| fc fm_no <| fc fm_no <| fc (fm_push _ _) <| fc (fm_putI _ _ (by decide)) <| fc fm_no <| fc fm_no <| fc (fm_iload _ _) <| fc fm_iret <| fc_0
-- 35: SecondOboe.fault()I
def k35 : List Step := [s_aload 0 1, s_getR 4 0, s_no, s_no, s_call 2 0 (s_scallI 22 1), s_no, s_no, s_iret]
set_option maxRecDepth 100000 in
theorem f35 : ∀ s ∈ k35, Form s := fc (fm_aload _ _) <| fc (fm_getR _ _) <| fc fm_no <| fc fm_no <| fc (fm_call _ _ _ (fm_scallI _ _)) <| fc fm_no <| fc fm_no <| fc fm_iret <| fc_0
-- 36: SecondOboe.lay()I
def k36 : List Step := [s_aload 0 1, s_call 4 0 (s_scallI 31 1), s_no, s_no, s_ifeq 17, s_no, s_no, s_aload 0 1, s_getR 4 1, s_no, s_no, s_getI 0 3, s_no, s_no, s_goto 19, s_no, s_no, s_push (-2) 2, s_no, s_iret]
set_option maxRecDepth 100000 in
theorem f36 : ∀ s ∈ k36, Form s := fc (fm_aload _ _) <| fc (fm_call _ _ _ (fm_scallI _ _)) <| fc fm_no <| fc fm_no <| fc (fm_ifeq _) <| fc fm_no <| fc fm_no <| fc (fm_aload _ _) <| fc (fm_getR _ _) <| fc fm_no <| fc fm_no <| fc (fm_getI _ _) <| fc fm_no <| fc fm_no <| fc (fm_goto _) <| fc fm_no <| fc fm_no <| fc (fm_push _ _) <| fc fm_no <| fc fm_iret <| fc_0
-- 37: SecondOboe.isInstrument(I)Z
def k37 : List Step := [s_iload 1 1, s_iflt 19, s_no, s_no, s_iload 1 1, s_aload 0 1, s_getR 4 1, s_no, s_no, s_getI 0 3, s_no, s_no, s_icge 19, s_no, s_no, s_push 1 1, s_goto 20, s_no, s_no, s_push 0 1, s_zret]
set_option maxRecDepth 100000 in
theorem f37 : ∀ s ∈ k37, Form s := fc (fm_iload _ _) <| fc (fm_iflt _) <| fc fm_no <| fc fm_no <| fc (fm_iload _ _) <| fc (fm_aload _ _) <| fc (fm_getR _ _) <| fc fm_no <| fc fm_no <| fc (fm_getI _ _) <| fc fm_no <| fc fm_no <| fc (fm_icge _) <| fc fm_no <| fc fm_no <| fc (fm_push _ _) <| fc (fm_goto _) <| fc fm_no <| fc fm_no <| fc (fm_push _ _) <| fc fm_zret <| fc_0
-- 38: SecondOboe.seatOf(I)I
def k38 : List Step := [s_push 0 1, s_istore 2 1, s_iload 2 1, s_aload 0 1, s_getR 4 1, s_no, s_no, s_getI 0 3, s_no, s_no, s_push 1 1, s_bin iSu, s_icge 31, s_no, s_no, s_aload 0 1, s_getR 4 2, s_no, s_no, s_iload 2 1, s_iald, s_iload 1 1, s_iceq 31, s_no, s_no, s_iinc 2 1, s_no, s_no, s_goto 2, s_no, s_no, s_iload 2 1, s_iret]
set_option maxRecDepth 100000 in
theorem f38 : ∀ s ∈ k38, Form s := fc (fm_push _ _) <| fc (fm_istore _ _) <| fc (fm_iload _ _) <| fc (fm_aload _ _) <| fc (fm_getR _ _) <| fc fm_no <| fc fm_no <| fc (fm_getI _ _) <| fc fm_no <| fc fm_no <| fc (fm_push _ _) <| fc (fm_bin _) <| fc (fm_icge _) <| fc fm_no <| fc fm_no <| fc (fm_aload _ _) <| fc (fm_getR _ _) <| fc fm_no <| fc fm_no <| fc (fm_iload _ _) <| fc fm_iald <| fc (fm_iload _ _) <| fc (fm_iceq _) <| fc fm_no <| fc fm_no <| fc (fm_iinc _ _) <| fc fm_no <| fc fm_no <| fc (fm_goto _) <| fc fm_no <| fc fm_no <| fc (fm_iload _ _) <| fc fm_iret <| fc_0
-- 39: SecondOboe.instrument(II)I
def k39 : List Step := [s_aload 0 1, s_iload 1 1, s_call 4 1 (s_scallI 37 2), s_no, s_no, s_ifne 10, s_no, s_no, s_push (-1) 1, s_iret, s_iload 2 1, s_switch [(0, 48), (1, 58), (2, 68), (3, 78), (4, 84), (5, 93)] 103, s_no, s_no, s_no, s_no, s_no, s_no, s_no, s_no, s_no, s_no, s_no, s_no, s_no, s_no, s_no, s_no, s_no, s_no, s_no, s_no, s_no, s_no, s_no, s_no, s_no, s_no, s_no, s_no, s_no, s_no, s_no, s_no, s_no, s_no, s_no, s_no, s_aload 0 1, s_getR 4 1, s_no, s_no, s_getR 0 0, s_no, s_no, s_iload 1 1, s_iald, s_iret, s_aload 0 1, s_getR 4 1, s_no, s_no, s_getR 0 1, s_no, s_no, s_iload 1 1, s_iald, s_iret, s_aload 0 1, s_getR 4 1, s_no, s_no, s_getR 0 2, s_no, s_no, s_iload 1 1, s_iald, s_iret, s_aload 0 1, s_iload 1 1, s_call 4 1 (s_scallI 38 2), s_no, s_no, s_iret, s_aload 0 1, s_getI 4 3, s_no, s_no, s_iload 1 1, s_bin bsr, s_push 1 1, s_bin ban, s_iret, s_aload 0 1, s_getR 4 4, s_no, s_no, s_getR 1 0, s_no, s_no, s_iload 1 1, s_iald, s_iret, s_push (-1) 1, s_iret]
set_option maxRecDepth 100000 in
theorem f39 : ∀ s ∈ k39, Form s := fc (fm_aload _ _) <| fc (fm_iload _ _) <| fc (fm_call _ _ _ (fm_scallI _ _)) <| fc fm_no <| fc fm_no <| fc (fm_ifne _) <| fc fm_no <| fc fm_no <| fc (fm_push _ _) <| fc fm_iret <| fc (fm_iload _ _) <| fc (fm_switch _ _) <| fc fm_no <| fc fm_no <| fc fm_no <| fc fm_no <| fc fm_no <| fc fm_no <| fc fm_no <| fc fm_no <| fc fm_no <| fc fm_no <| fc fm_no <| fc fm_no <| fc fm_no <| fc fm_no <| fc fm_no <| fc fm_no <| fc fm_no <| fc fm_no <| fc fm_no <| fc fm_no <| fc fm_no <| fc fm_no <| fc fm_no <| fc fm_no <| fc fm_no <| fc fm_no <| fc fm_no <| fc fm_no <| fc fm_no <| fc fm_no <| fc fm_no <| fc fm_no <| fc fm_no <| fc fm_no <| fc fm_no <| fc fm_no <| fc (fm_aload _ _) <| fc (fm_getR _ _) <| fc fm_no <| fc fm_no <| fc (fm_getR _ _) <| fc fm_no <| fc fm_no <| fc (fm_iload _ _) <| fc fm_iald <| fc fm_iret <| fc (fm_aload _ _) <| fc (fm_getR _ _) <| fc fm_no <| fc fm_no <| fc (fm_getR _ _) <| fc fm_no <| fc fm_no <| fc (fm_iload _ _) <| fc fm_iald <| fc fm_iret <| fc (fm_aload _ _) <| fc (fm_getR _ _) <| fc fm_no <| fc fm_no <| fc (fm_getR _ _) <| fc fm_no <| fc fm_no <| fc (fm_iload _ _) <| fc fm_iald <| fc fm_iret <| fc (fm_aload _ _) <| fc (fm_iload _ _) <| fc (fm_call _ _ _ (fm_scallI _ _)) <| fc fm_no <| fc fm_no <| fc fm_iret <| fc (fm_aload _ _) <| fc (fm_getI _ _) <| fc fm_no <| fc fm_no <| fc (fm_iload _ _) <| fc (fm_bin _) <| fc (fm_push _ _) <| fc (fm_bin _) <| fc fm_iret <| fc (fm_aload _ _) <| fc (fm_getR _ _) <| fc fm_no <| fc fm_no <| fc (fm_getR _ _) <| fc fm_no <| fc fm_no <| fc (fm_iload _ _) <| fc fm_iald <| fc fm_iret <| fc (fm_push _ _) <| fc fm_iret <| fc_0
-- 40: SecondOboe.seat(I)I
def k40 : List Step := [s_aload 0 1, s_iload 1 1, s_call 4 1 (s_scallI 37 2), s_no, s_no, s_ifeq 17, s_no, s_no, s_aload 0 1, s_getR 4 2, s_no, s_no, s_iload 1 1, s_iald, s_goto 18, s_no, s_no, s_push (-1) 1, s_iret]
set_option maxRecDepth 100000 in
theorem f40 : ∀ s ∈ k40, Form s := fc (fm_aload _ _) <| fc (fm_iload _ _) <| fc (fm_call _ _ _ (fm_scallI _ _)) <| fc fm_no <| fc fm_no <| fc (fm_ifeq _) <| fc fm_no <| fc fm_no <| fc (fm_aload _ _) <| fc (fm_getR _ _) <| fc fm_no <| fc fm_no <| fc (fm_iload _ _) <| fc fm_iald <| fc (fm_goto _) <| fc fm_no <| fc fm_no <| fc (fm_push _ _) <| fc fm_iret <| fc_0
-- 41: SecondOboe.isBar(I)Z
def k41 : List Step := [s_iload 1 1, s_iflt 19, s_no, s_no, s_iload 1 1, s_aload 0 1, s_getR 4 1, s_no, s_no, s_getI 0 5, s_no, s_no, s_icge 19, s_no, s_no, s_push 1 1, s_goto 20, s_no, s_no, s_push 0 1, s_zret]
set_option maxRecDepth 100000 in
theorem f41 : ∀ s ∈ k41, Form s := fc (fm_iload _ _) <| fc (fm_iflt _) <| fc fm_no <| fc fm_no <| fc (fm_iload _ _) <| fc (fm_aload _ _) <| fc (fm_getR _ _) <| fc fm_no <| fc fm_no <| fc (fm_getI _ _) <| fc fm_no <| fc fm_no <| fc (fm_icge _) <| fc fm_no <| fc fm_no <| fc (fm_push _ _) <| fc (fm_goto _) <| fc fm_no <| fc fm_no <| fc (fm_push _ _) <| fc fm_zret <| fc_0
-- 42: SecondOboe.asked(I)I
def k42 : List Step := [s_aload 0 1, s_iload 1 1, s_call 4 1 (s_scallI 41 2), s_no, s_no, s_ifeq 20, s_no, s_no, s_aload 0 1, s_getR 4 1, s_no, s_no, s_getR 0 4, s_no, s_no, s_iload 1 1, s_iald, s_goto 21, s_no, s_no, s_push (-1) 1, s_iret]
set_option maxRecDepth 100000 in
theorem f42 : ∀ s ∈ k42, Form s := fc (fm_aload _ _) <| fc (fm_iload _ _) <| fc (fm_call _ _ _ (fm_scallI _ _)) <| fc fm_no <| fc fm_no <| fc (fm_ifeq _) <| fc fm_no <| fc fm_no <| fc (fm_aload _ _) <| fc (fm_getR _ _) <| fc fm_no <| fc fm_no <| fc (fm_getR _ _) <| fc fm_no <| fc fm_no <| fc (fm_iload _ _) <| fc fm_iald <| fc (fm_goto _) <| fc fm_no <| fc fm_no <| fc (fm_push _ _) <| fc fm_iret <| fc_0
-- 43: SecondOboe.plays(I)I
def k43 : List Step := [s_aload 0 1, s_iload 1 1, s_call 4 1 (s_scallI 41 2), s_no, s_no, s_ifeq 20, s_no, s_no, s_aload 0 1, s_getR 4 4, s_no, s_no, s_getR 1 1, s_no, s_no, s_iload 1 1, s_iald, s_goto 21, s_no, s_no, s_push (-1) 1, s_iret]
set_option maxRecDepth 100000 in
theorem f43 : ∀ s ∈ k43, Form s := fc (fm_aload _ _) <| fc (fm_iload _ _) <| fc (fm_call _ _ _ (fm_scallI _ _)) <| fc fm_no <| fc fm_no <| fc (fm_ifeq _) <| fc fm_no <| fc fm_no <| fc (fm_aload _ _) <| fc (fm_getR _ _) <| fc fm_no <| fc fm_no <| fc (fm_getR _ _) <| fc fm_no <| fc fm_no <| fc (fm_iload _ _) <| fc fm_iald <| fc (fm_goto _) <| fc fm_no <| fc fm_no <| fc (fm_push _ _) <| fc fm_iret <| fc_0
-- 44: SecondOboe.missingIn(I)I
def k44 : List Step := [s_aload 0 1, s_getR 4 1, s_no, s_no, s_getR 0 4, s_no, s_no, s_iload 1 1, s_iald, s_aload 0 1, s_getR 4 4, s_no, s_no, s_getR 1 1, s_no, s_no, s_iload 1 1, s_iald, s_push (-1) 1, s_bin bxo, s_bin ban, s_iret]
set_option maxRecDepth 100000 in
theorem f44 : ∀ s ∈ k44, Form s := fc (fm_aload _ _) <| fc (fm_getR _ _) <| fc fm_no <| fc fm_no <| fc (fm_getR _ _) <| fc fm_no <| fc fm_no <| fc (fm_iload _ _) <| fc fm_iald <| fc (fm_aload _ _) <| fc (fm_getR _ _) <| fc fm_no <| fc fm_no <| fc (fm_getR _ _) <| fc fm_no <| fc fm_no <| fc (fm_iload _ _) <| fc fm_iald <| fc (fm_push _ _) <| fc (fm_bin _) <| fc (fm_bin _) <| fc fm_iret <| fc_0
-- 45: SecondOboe.missing(I)I
def k45 : List Step := [s_aload 0 1, s_iload 1 1, s_call 4 1 (s_scallI 41 2), s_no, s_no, s_ifeq 16, s_no, s_no, s_aload 0 1, s_iload 1 1, s_call 4 1 (s_scallI 44 2), s_no, s_no, s_goto 17, s_no, s_no, s_push (-1) 1, s_iret]
set_option maxRecDepth 100000 in
theorem f45 : ∀ s ∈ k45, Form s := fc (fm_aload _ _) <| fc (fm_iload _ _) <| fc (fm_call _ _ _ (fm_scallI _ _)) <| fc fm_no <| fc fm_no <| fc (fm_ifeq _) <| fc fm_no <| fc fm_no <| fc (fm_aload _ _) <| fc (fm_iload _ _) <| fc (fm_call _ _ _ (fm_scallI _ _)) <| fc fm_no <| fc fm_no <| fc (fm_goto _) <| fc fm_no <| fc fm_no <| fc (fm_push _ _) <| fc fm_iret <| fc_0
-- 46: SecondOboe.first()I
def k46 : List Step := [s_push 0 1, s_istore 1 1, s_iload 1 1, s_aload 0 1, s_getR 4 1, s_no, s_no, s_getI 0 5, s_no, s_no, s_icge 29, s_no, s_no, s_aload 0 1, s_iload 1 1, s_call 4 1 (s_scallI 44 2), s_no, s_no, s_ifeq 23, s_no, s_no, s_iload 1 1, s_iret, s_iinc 1 1, s_no, s_no, s_goto 2, s_no, s_no, s_push (-4) 2, s_no, s_iret]
set_option maxRecDepth 100000 in
theorem f46 : ∀ s ∈ k46, Form s := fc (fm_push _ _) <| fc (fm_istore _ _) <| fc (fm_iload _ _) <| fc (fm_aload _ _) <| fc (fm_getR _ _) <| fc fm_no <| fc fm_no <| fc (fm_getI _ _) <| fc fm_no <| fc fm_no <| fc (fm_icge _) <| fc fm_no <| fc fm_no <| fc (fm_aload _ _) <| fc (fm_iload _ _) <| fc (fm_call _ _ _ (fm_scallI _ _)) <| fc fm_no <| fc fm_no <| fc (fm_ifeq _) <| fc fm_no <| fc fm_no <| fc (fm_iload _ _) <| fc fm_iret <| fc (fm_iinc _ _) <| fc fm_no <| fc fm_no <| fc (fm_goto _) <| fc fm_no <| fc fm_no <| fc (fm_push _ _) <| fc fm_no <| fc fm_iret <| fc_0
-- 47: SecondOboe.notes(I)I
def k47 : List Step := [s_iload 1 1, s_switch [(0, 28), (1, 36)] 44, s_no, s_no, s_no, s_no, s_no, s_no, s_no, s_no, s_no, s_no, s_no, s_no, s_no, s_no, s_no, s_no, s_no, s_no, s_no, s_no, s_no, s_no, s_no, s_no, s_no, s_no, s_aload 0 1, s_getR 4 4, s_no, s_no, s_getI 1 2, s_no, s_no, s_iret, s_aload 0 1, s_getR 4 4, s_no, s_no, s_getI 1 3, s_no, s_no, s_iret, s_push (-1) 1, s_iret]
set_option maxRecDepth 100000 in
theorem f47 : ∀ s ∈ k47, Form s := fc (fm_iload _ _) <| fc (fm_switch _ _) <| fc fm_no <| fc fm_no <| fc fm_no <| fc fm_no <| fc fm_no <| fc fm_no <| fc fm_no <| fc fm_no <| fc fm_no <| fc fm_no <| fc fm_no <| fc fm_no <| fc fm_no <| fc fm_no <| fc fm_no <| fc fm_no <| fc fm_no <| fc fm_no <| fc fm_no <| fc fm_no <| fc fm_no <| fc fm_no <| fc fm_no <| fc fm_no <| fc fm_no <| fc fm_no <| fc (fm_aload _ _) <| fc (fm_getR _ _) <| fc fm_no <| fc fm_no <| fc (fm_getI _ _) <| fc fm_no <| fc fm_no <| fc fm_iret <| fc (fm_aload _ _) <| fc (fm_getR _ _) <| fc fm_no <| fc fm_no <| fc (fm_getI _ _) <| fc fm_no <| fc fm_no <| fc fm_iret <| fc (fm_push _ _) <| fc fm_iret <| fc_0
-- 48: SecondOboe.remember(I)V
def k48 : List Step := [s_aload 0 1, s_getI 4 9, s_no, s_no, s_push 8 2, s_no, s_iclt 30, s_no, s_no, s_aload 0 1, s_getR 4 8, s_no, s_no, s_push 1 1, s_aload 0 1, s_getR 4 8, s_no, s_no, s_push 0 1, s_push 7 2, s_no, s_copy, s_no, s_no, s_aload 0 1, s_push 7 2, s_no, s_putI 4 9, s_no, s_no, s_aload 0 1, s_getR 4 8, s_no, s_no, s_aload 0 1, s_getI 4 9, s_no, s_no, s_iload 1 1, s_iast, s_aload 0 1, s_dup, s_getI 4 9, s_no, s_no, s_push 1 1, s_bin iAd, s_putI 4 9, s_no, s_no, s_vret]
set_option maxRecDepth 100000 in
theorem f48 : ∀ s ∈ k48, Form s := fc (fm_aload _ _) <| fc (fm_getI _ _) <| fc fm_no <| fc fm_no <| fc (fm_push _ _) <| fc fm_no <| fc (fm_iclt _) <| fc fm_no <| fc fm_no <| fc (fm_aload _ _) <| fc (fm_getR _ _) <| fc fm_no <| fc fm_no <| fc (fm_push _ _) <| fc (fm_aload _ _) <| fc (fm_getR _ _) <| fc fm_no <| fc fm_no <| fc (fm_push _ _) <| fc (fm_push _ _) <| fc fm_no <| fc fm_copy <| fc fm_no <| fc fm_no <| fc (fm_aload _ _) <| fc (fm_push _ _) <| fc fm_no <| fc (fm_putI _ _ (by decide)) <| fc fm_no <| fc fm_no <| fc (fm_aload _ _) <| fc (fm_getR _ _) <| fc fm_no <| fc fm_no <| fc (fm_aload _ _) <| fc (fm_getI _ _) <| fc fm_no <| fc fm_no <| fc (fm_iload _ _) <| fc fm_iast <| fc (fm_aload _ _) <| fc fm_dup <| fc (fm_getI _ _) <| fc fm_no <| fc fm_no <| fc (fm_push _ _) <| fc (fm_bin _) <| fc (fm_putI _ _ (by decide)) <| fc fm_no <| fc fm_no <| fc fm_vret <| fc_0
-- 49: SecondOboe.change(II)I
def k49 : List Step := [s_aload 0 1, s_iload 1 1, s_call 4 1 (s_scallI 37 2), s_no, s_no, s_ifeq 21, s_no, s_no, s_aload 0 1, s_iload 2 1, s_call 4 1 (s_scallI 37 2), s_no, s_no, s_ifeq 21, s_no, s_no, s_iload 1 1, s_iload 2 1, s_icne 23, s_no, s_no, s_push (-1) 1, s_iret, s_aload 0 1, s_push 64 2, s_no, s_push 8 2, s_no, s_iload 1 1, s_bin iMu, s_bin iAd, s_iload 2 1, s_bin iAd, s_call 4 1 (s_scallV 48 2), s_no, s_no, s_aload 0 1, s_getR 4 2, s_no, s_no, s_iload 1 1, s_iload 2 1, s_scallV 27 3, s_no, s_no, s_aload 0 1, s_call 4 0 (s_scallV 30 1), s_no, s_no, s_aload 0 1, s_getR 4 2, s_no, s_no, s_iload 1 1, s_iald, s_iret]
set_option maxRecDepth 100000 in
theorem f49 : ∀ s ∈ k49, Form s := fc (fm_aload _ _) <| fc (fm_iload _ _) <| fc (fm_call _ _ _ (fm_scallI _ _)) <| fc fm_no <| fc fm_no <| fc (fm_ifeq _) <| fc fm_no <| fc fm_no <| fc (fm_aload _ _) <| fc (fm_iload _ _) <| fc (fm_call _ _ _ (fm_scallI _ _)) <| fc fm_no <| fc fm_no <| fc (fm_ifeq _) <| fc fm_no <| fc fm_no <| fc (fm_iload _ _) <| fc (fm_iload _ _) <| fc (fm_icne _) <| fc fm_no <| fc fm_no <| fc (fm_push _ _) <| fc fm_iret <| fc (fm_aload _ _) <| fc (fm_push _ _) <| fc fm_no <| fc (fm_push _ _) <| fc fm_no <| fc (fm_iload _ _) <| fc (fm_bin _) <| fc (fm_bin _) <| fc (fm_iload _ _) <| fc (fm_bin _) <| fc (fm_call _ _ _ (fm_scallV _ _)) <| fc fm_no <| fc fm_no <| fc (fm_aload _ _) <| fc (fm_getR _ _) <| fc fm_no <| fc fm_no <| fc (fm_iload _ _) <| fc (fm_iload _ _) <| fc (fm_scallV _ _) <| fc fm_no <| fc fm_no <| fc (fm_aload _ _) <| fc (fm_call _ _ _ (fm_scallV _ _)) <| fc fm_no <| fc fm_no <| fc (fm_aload _ _) <| fc (fm_getR _ _) <| fc fm_no <| fc fm_no <| fc (fm_iload _ _) <| fc fm_iald <| fc fm_iret <| fc_0
-- 50: SecondOboe.priceOf(I)I
def k50 : List Step := [s_push 0 1, s_istore 2 1, s_push 0 1, s_istore 3 1, s_iload 3 1, s_aload 0 1, s_getR 4 1, s_no, s_no, s_getI 0 3, s_no, s_no, s_icge 39, s_no, s_no, s_iload 2 1, s_iload 1 1, s_iload 3 1, s_bin bsr, s_push 1 1, s_bin ban, s_aload 0 1, s_getR 4 1, s_no, s_no, s_getR 0 2, s_no, s_no, s_iload 3 1, s_iald, s_bin iMu, s_bin iAd, s_istore 2 1, s_iinc 3 1, s_no, s_no, s_goto 4, s_no, s_no, s_iload 2 1, s_iret]
set_option maxRecDepth 100000 in
theorem f50 : ∀ s ∈ k50, Form s := fc (fm_push _ _) <| fc (fm_istore _ _) <| fc (fm_push _ _) <| fc (fm_istore _ _) <| fc (fm_iload _ _) <| fc (fm_aload _ _) <| fc (fm_getR _ _) <| fc fm_no <| fc fm_no <| fc (fm_getI _ _) <| fc fm_no <| fc fm_no <| fc (fm_icge _) <| fc fm_no <| fc fm_no <| fc (fm_iload _ _) <| fc (fm_iload _ _) <| fc (fm_iload _ _) <| fc (fm_bin _) <| fc (fm_push _ _) <| fc (fm_bin _) <| fc (fm_aload _ _) <| fc (fm_getR _ _) <| fc fm_no <| fc fm_no <| fc (fm_getR _ _) <| fc fm_no <| fc fm_no <| fc (fm_iload _ _) <| fc fm_iald <| fc (fm_bin _) <| fc (fm_bin _) <| fc (fm_istore _ _) <| fc (fm_iinc _ _) <| fc fm_no <| fc fm_no <| fc (fm_goto _) <| fc fm_no <| fc fm_no <| fc (fm_iload _ _) <| fc fm_iret <| fc_0
-- 51: SecondOboe.bribe(I)I
def k51 : List Step := [s_aload 0 1, s_iload 1 1, s_call 4 1 (s_scallI 37 2), s_no, s_no, s_ifne 10, s_no, s_no, s_push (-1) 1, s_iret, s_aload 0 1, s_iload 1 1, s_call 4 1 (s_scallV 48 2), s_no, s_no, s_aload 0 1, s_dup, s_getI 4 3, s_no, s_no, s_push 1 1, s_iload 1 1, s_bin bsl, s_bin bxo, s_putI 4 3, s_no, s_no, s_aload 0 1, s_call 4 0 (s_scallV 30 1), s_no, s_no, s_aload 0 1, s_aload 0 1, s_getI 4 3, s_no, s_no, s_call 4 1 (s_scallI 50 2), s_no, s_no, s_iret]
set_option maxRecDepth 100000 in
theorem f51 : ∀ s ∈ k51, Form s := fc (fm_aload _ _) <| fc (fm_iload _ _) <| fc (fm_call _ _ _ (fm_scallI _ _)) <| fc fm_no <| fc fm_no <| fc (fm_ifne _) <| fc fm_no <| fc fm_no <| fc (fm_push _ _) <| fc fm_iret <| fc (fm_aload _ _) <| fc (fm_iload _ _) <| fc (fm_call _ _ _ (fm_scallV _ _)) <| fc fm_no <| fc fm_no <| fc (fm_aload _ _) <| fc fm_dup <| fc (fm_getI _ _) <| fc fm_no <| fc fm_no <| fc (fm_push _ _) <| fc (fm_iload _ _) <| fc (fm_bin _) <| fc (fm_bin _) <| fc (fm_putI _ _ (by decide)) <| fc fm_no <| fc fm_no <| fc (fm_aload _ _) <| fc (fm_call _ _ _ (fm_scallV _ _)) <| fc fm_no <| fc fm_no <| fc (fm_aload _ _) <| fc (fm_aload _ _) <| fc (fm_getI _ _) <| fc fm_no <| fc fm_no <| fc (fm_call _ _ _ (fm_scallI _ _)) <| fc fm_no <| fc fm_no <| fc fm_iret <| fc_0
-- 52: SecondOboe.undo()I
def k52 : List Step := [s_aload 0 1, s_getI 4 9, s_no, s_no, s_push 1 1, s_icge 11, s_no, s_no, s_push (-2) 2, s_no, s_iret, s_aload 0 1, s_dup, s_getI 4 9, s_no, s_no, s_push 1 1, s_bin iSu, s_putI 4 9, s_no, s_no, s_aload 0 1, s_getR 4 8, s_no, s_no, s_aload 0 1, s_getI 4 9, s_no, s_no, s_iald, s_istore 1 1, s_iload 1 1, s_push 64 2, s_no, s_iclt 57, s_no, s_no, s_aload 0 1, s_getR 4 2, s_no, s_no, s_iload 1 1, s_push 3 1, s_bin bsr, s_push 7 2, s_no, s_bin ban, s_iload 1 1, s_push 7 2, s_no, s_bin ban, s_scallV 27 3, s_no, s_no, s_goto 69, s_no, s_no, s_aload 0 1, s_dup, s_getI 4 3, s_no, s_no, s_push 1 1, s_iload 1 1, s_bin bsl, s_bin bxo, s_putI 4 3, s_no, s_no, s_aload 0 1, s_call 4 0 (s_scallV 30 1), s_no, s_no, s_aload 0 1, s_getI 4 9, s_no, s_no, s_iret]
set_option maxRecDepth 100000 in
theorem f52 : ∀ s ∈ k52, Form s := fc (fm_aload _ _) <| fc (fm_getI _ _) <| fc fm_no <| fc fm_no <| fc (fm_push _ _) <| fc (fm_icge _) <| fc fm_no <| fc fm_no <| fc (fm_push _ _) <| fc fm_no <| fc fm_iret <| fc (fm_aload _ _) <| fc fm_dup <| fc (fm_getI _ _) <| fc fm_no <| fc fm_no <| fc (fm_push _ _) <| fc (fm_bin _) <| fc (fm_putI _ _ (by decide)) <| fc fm_no <| fc fm_no <| fc (fm_aload _ _) <| fc (fm_getR _ _) <| fc fm_no <| fc fm_no <| fc (fm_aload _ _) <| fc (fm_getI _ _) <| fc fm_no <| fc fm_no <| fc fm_iald <| fc (fm_istore _ _) <| fc (fm_iload _ _) <| fc (fm_push _ _) <| fc fm_no <| fc (fm_iclt _) <| fc fm_no <| fc fm_no <| fc (fm_aload _ _) <| fc (fm_getR _ _) <| fc fm_no <| fc fm_no <| fc (fm_iload _ _) <| fc (fm_push _ _) <| fc (fm_bin _) <| fc (fm_push _ _) <| fc fm_no <| fc (fm_bin _) <| fc (fm_iload _ _) <| fc (fm_push _ _) <| fc fm_no <| fc (fm_bin _) <| fc (fm_scallV _ _) <| fc fm_no <| fc fm_no <| fc (fm_goto _) <| fc fm_no <| fc fm_no <| fc (fm_aload _ _) <| fc fm_dup <| fc (fm_getI _ _) <| fc fm_no <| fc fm_no <| fc (fm_push _ _) <| fc (fm_iload _ _) <| fc (fm_bin _) <| fc (fm_bin _) <| fc (fm_putI _ _ (by decide)) <| fc fm_no <| fc fm_no <| fc (fm_aload _ _) <| fc (fm_call _ _ _ (fm_scallV _ _)) <| fc fm_no <| fc fm_no <| fc (fm_aload _ _) <| fc (fm_getI _ _) <| fc fm_no <| fc fm_no <| fc fm_iret <| fc_0
-- 53: SecondOboe.surveyed()LSecondOboe$Survey;
def k53 : List Step := [s_aload 0 1, s_getR 4 5, s_no, s_no, s_getI 3 0, s_no, s_no, s_ifne 33, s_no, s_no, s_aload 0 1, s_getR 4 5, s_no, s_no, s_aload 0 1, s_getR 4 1, s_no, s_no, s_aload 0 1, s_getR 4 2, s_no, s_no, s_aload 0 1, s_getI 4 3, s_no, s_no, s_aload 0 1, s_getR 4 4, s_no, s_no, s_call 3 4 (s_scallV 29 5), s_no, s_no, s_aload 0 1, s_getR 4 5, s_no, s_no, s_aret]
set_option maxRecDepth 100000 in
theorem f53 : ∀ s ∈ k53, Form s := fc (fm_aload _ _) <| fc (fm_getR _ _) <| fc fm_no <| fc fm_no <| fc (fm_getI _ _) <| fc fm_no <| fc fm_no <| fc (fm_ifne _) <| fc fm_no <| fc fm_no <| fc (fm_aload _ _) <| fc (fm_getR _ _) <| fc fm_no <| fc fm_no <| fc (fm_aload _ _) <| fc (fm_getR _ _) <| fc fm_no <| fc fm_no <| fc (fm_aload _ _) <| fc (fm_getR _ _) <| fc fm_no <| fc fm_no <| fc (fm_aload _ _) <| fc (fm_getI _ _) <| fc fm_no <| fc fm_no <| fc (fm_aload _ _) <| fc (fm_getR _ _) <| fc fm_no <| fc fm_no <| fc (fm_call _ _ _ (fm_scallV _ _)) <| fc fm_no <| fc fm_no <| fc (fm_aload _ _) <| fc (fm_getR _ _) <| fc fm_no <| fc fm_no <| fc fm_aret <| fc_0
-- 54: SecondOboe.best(I)I
def k54 : List Step := [s_iload 1 1, s_push (-1) 1, s_icne 13, s_no, s_no, s_aload 0 1, s_call 4 0 (s_scallR 29 53 1), s_no, s_no, s_getI 3 5, s_no, s_no, s_iret, s_aload 0 1, s_iload 1 1, s_call 4 1 (s_scallI 37 2), s_no, s_no, s_ifeq 33, s_no, s_no, s_aload 0 1, s_call 4 0 (s_scallR 29 53 1), s_no, s_no, s_getR 3 6, s_no, s_no, s_iload 1 1, s_iald, s_goto 34, s_no, s_no, s_push (-1) 1, s_iret]
set_option maxRecDepth 100000 in
theorem f54 : ∀ s ∈ k54, Form s := fc (fm_iload _ _) <| fc (fm_push _ _) <| fc (fm_icne _) <| fc fm_no <| fc fm_no <| fc (fm_aload _ _) <| fc (fm_call _ _ _ (fm_scallR _ _ _)) <| fc fm_no <| fc fm_no <| fc (fm_getI _ _) <| fc fm_no <| fc fm_no <| fc fm_iret <| fc (fm_aload _ _) <| fc (fm_iload _ _) <| fc (fm_call _ _ _ (fm_scallI _ _)) <| fc fm_no <| fc fm_no <| fc (fm_ifeq _) <| fc fm_no <| fc fm_no <| fc (fm_aload _ _) <| fc (fm_call _ _ _ (fm_scallR _ _ _)) <| fc fm_no <| fc fm_no <| fc (fm_getR _ _) <| fc fm_no <| fc fm_no <| fc (fm_iload _ _) <| fc fm_iald <| fc (fm_goto _) <| fc fm_no <| fc fm_no <| fc (fm_push _ _) <| fc fm_iret <| fc_0
-- 55: SecondOboe.changes()I
def k55 : List Step := [s_aload 0 1, s_call 4 0 (s_scallR 29 53 1), s_no, s_no, s_getI 3 4, s_no, s_no, s_iret]
set_option maxRecDepth 100000 in
theorem f55 : ∀ s ∈ k55, Form s := fc (fm_aload _ _) <| fc (fm_call _ _ _ (fm_scallR _ _ _)) <| fc fm_no <| fc fm_no <| fc (fm_getI _ _) <| fc fm_no <| fc fm_no <| fc fm_iret <| fc_0
-- 56: SecondOboe.help(I)I
def k56 : List Step := [s_iload 1 1, s_iflt 9, s_no, s_no, s_iload 1 1, s_push 1 1, s_icle 11, s_no, s_no, s_push (-1) 1, s_iret, s_push (-4) 2, s_no, s_istore 2 1, s_aload 0 1, s_getR 4 4, s_no, s_no, s_getI 1 2, s_no, s_no, s_istore 3 1, s_aload 0 1, s_getR 4 2, s_no, s_no, s_push 0 1, s_aload 0 1, s_getR 4 6, s_no, s_no, s_push 0 1, s_aload 0 1, s_getR 4 2, s_no, s_no, s_alen, s_copy, s_no, s_no, s_push 0 1, s_istore 4 2, s_no, s_iload 4 2, s_no, s_aload 0 1, s_getR 4 1, s_no, s_no, s_getI 0 3, s_no, s_no, s_icge 163, s_no, s_no, s_iload 4 2, s_no, s_push 1 1, s_bin iAd, s_istore 5 2, s_no, s_iload 5 2, s_no, s_aload 0 1, s_getR 4 1, s_no, s_no, s_getI 0 3, s_no, s_no, s_icge 157, s_no, s_no, s_aload 0 1, s_getR 4 6, s_no, s_no, s_iload 4 2, s_no, s_iload 5 2, s_no, s_scallV 27 3, s_no, s_no, s_aload 0 1, s_getR 4 7, s_no, s_no, s_aload 0 1, s_getR 4 1, s_no, s_no, s_aload 0 1, s_getR 4 6, s_no, s_no, s_aload 0 1, s_getR 4 1, s_no, s_no, s_getI 0 8, s_no, s_no, s_aload 0 1, s_getI 4 3, s_no, s_no, s_push 127 2, s_no, s_call 1 5 (s_scallV 13 6), s_no, s_no, s_aload 0 1, s_getR 4 6, s_no, s_no, s_iload 4 2, s_no, s_iload 5 2, s_no, s_scallV 27 3, s_no, s_no, s_aload 0 1, s_getR 4 7, s_no, s_no, s_getI 1 2, s_no, s_no, s_iload 3 1, s_icle 151, s_no, s_no, s_aload 0 1, s_getR 4 7, s_no, s_no, s_getI 1 2, s_no, s_no, s_istore 3 1, s_push 8 2, s_no, s_iload 4 2, s_no, s_bin iMu, s_iload 5 2, s_no, s_bin iAd, s_istore 2 1, s_iinc 5 1, s_no, s_no, s_goto 61, s_no, s_no, s_iinc 4 1, s_no, s_no, s_goto 43, s_no, s_no, s_iload 2 1, s_push (-4) 2, s_no, s_iceq 173, s_no, s_no, s_iload 1 1, s_ifne 177, s_no, s_no, s_iload 2 1, s_goto 178, s_no, s_no, s_iload 3 1, s_iret]
set_option maxRecDepth 100000 in
theorem f56 : ∀ s ∈ k56, Form s := fc (fm_iload _ _) <| fc (fm_iflt _) <| fc fm_no <| fc fm_no <| fc (fm_iload _ _) <| fc (fm_push _ _) <| fc (fm_icle _) <| fc fm_no <| fc fm_no <| fc (fm_push _ _) <| fc fm_iret <| fc (fm_push _ _) <| fc fm_no <| fc (fm_istore _ _) <| fc (fm_aload _ _) <| fc (fm_getR _ _) <| fc fm_no <| fc fm_no <| fc (fm_getI _ _) <| fc fm_no <| fc fm_no <| fc (fm_istore _ _) <| fc (fm_aload _ _) <| fc (fm_getR _ _) <| fc fm_no <| fc fm_no <| fc (fm_push _ _) <| fc (fm_aload _ _) <| fc (fm_getR _ _) <| fc fm_no <| fc fm_no <| fc (fm_push _ _) <| fc (fm_aload _ _) <| fc (fm_getR _ _) <| fc fm_no <| fc fm_no <| fc fm_alen <| fc fm_copy <| fc fm_no <| fc fm_no <| fc (fm_push _ _) <| fc (fm_istore _ _) <| fc fm_no <| fc (fm_iload _ _) <| fc fm_no <| fc (fm_aload _ _) <| fc (fm_getR _ _) <| fc fm_no <| fc fm_no <| fc (fm_getI _ _) <| fc fm_no <| fc fm_no <| fc (fm_icge _) <| fc fm_no <| fc fm_no <| fc (fm_iload _ _) <| fc fm_no <| fc (fm_push _ _) <| fc (fm_bin _) <| fc (fm_istore _ _) <| fc fm_no <| fc (fm_iload _ _) <| fc fm_no <| fc (fm_aload _ _) <| fc (fm_getR _ _) <| fc fm_no <| fc fm_no <| fc (fm_getI _ _) <| fc fm_no <| fc fm_no <| fc (fm_icge _) <| fc fm_no <| fc fm_no <| fc (fm_aload _ _) <| fc (fm_getR _ _) <| fc fm_no <| fc fm_no <| fc (fm_iload _ _) <| fc fm_no <| fc (fm_iload _ _) <| fc fm_no <| fc (fm_scallV _ _) <| fc fm_no <| fc fm_no <| fc (fm_aload _ _) <| fc (fm_getR _ _) <| fc fm_no <| fc fm_no <| fc (fm_aload _ _) <| fc (fm_getR _ _) <| fc fm_no <| fc fm_no <| fc (fm_aload _ _) <| fc (fm_getR _ _) <| fc fm_no <| fc fm_no <| fc (fm_aload _ _) <| fc (fm_getR _ _) <| fc fm_no <| fc fm_no <| fc (fm_getI _ _) <| fc fm_no <| fc fm_no <| fc (fm_aload _ _) <| fc (fm_getI _ _) <| fc fm_no <| fc fm_no <| fc (fm_push _ _) <| fc fm_no <| fc (fm_call _ _ _ (fm_scallV _ _)) <| fc fm_no <| fc fm_no <| fc (fm_aload _ _) <| fc (fm_getR _ _) <| fc fm_no <| fc fm_no <| fc (fm_iload _ _) <| fc fm_no <| fc (fm_iload _ _) <| fc fm_no <| fc (fm_scallV _ _) <| fc fm_no <| fc fm_no <| fc (fm_aload _ _) <| fc (fm_getR _ _) <| fc fm_no <| fc fm_no <| fc (fm_getI _ _) <| fc fm_no <| fc fm_no <| fc (fm_iload _ _) <| fc (fm_icle _) <| fc fm_no <| fc fm_no <| fc (fm_aload _ _) <| fc (fm_getR _ _) <| fc fm_no <| fc fm_no <| fc (fm_getI _ _) <| fc fm_no <| fc fm_no <| fc (fm_istore _ _) <| fc (fm_push _ _) <| fc fm_no <| fc (fm_iload _ _) <| fc fm_no <| fc (fm_bin _) <| fc (fm_iload _ _) <| fc fm_no <| fc (fm_bin _) <| fc (fm_istore _ _) <| fc (fm_iinc _ _) <| fc fm_no <| fc fm_no <| fc (fm_goto _) <| fc fm_no <| fc fm_no <| fc (fm_iinc _ _) <| fc fm_no <| fc fm_no <| fc (fm_goto _) <| fc fm_no <| fc fm_no <| fc (fm_iload _ _) <| fc (fm_push _ _) <| fc fm_no <| fc (fm_iceq _) <| fc fm_no <| fc fm_no <| fc (fm_iload _ _) <| fc (fm_ifne _) <| fc fm_no <| fc fm_no <| fc (fm_iload _ _) <| fc (fm_goto _) <| fc fm_no <| fc fm_no <| fc (fm_iload _ _) <| fc fm_iret <| fc_0
-- 57: SecondOboe.bribes(I)I
def k57 : List Step := [s_iload 1 1, s_iflt 9, s_no, s_no, s_iload 1 1, s_push 1 1, s_icle 11, s_no, s_no, s_push (-1) 1, s_iret, s_push (-4) 2, s_no, s_istore 2 1, s_push 0 1, s_istore 3 1, s_iload 3 1, s_push 1 1, s_aload 0 1, s_getR 4 1, s_no, s_no, s_getI 0 3, s_no, s_no, s_bin bsl, s_icge 101, s_no, s_no, s_iload 2 1, s_push (-4) 2, s_no, s_iceq 51, s_no, s_no, s_aload 0 1, s_iload 3 1, s_call 4 1 (s_scallI 50 2), s_no, s_no, s_aload 0 1, s_iload 2 1, s_call 4 1 (s_scallI 50 2), s_no, s_no, s_iclt 51, s_no, s_no, s_goto 95, s_no, s_no, s_aload 0 1, s_getR 4 7, s_no, s_no, s_aload 0 1, s_getR 4 1, s_no, s_no, s_aload 0 1, s_getR 4 2, s_no, s_no, s_aload 0 1, s_getR 4 1, s_no, s_no, s_getI 0 8, s_no, s_no, s_iload 3 1, s_push 127 2, s_no, s_call 1 5 (s_scallV 13 6), s_no, s_no, s_aload 0 1, s_getR 4 7, s_no, s_no, s_getI 1 3, s_no, s_no, s_aload 0 1, s_getR 4 1, s_no, s_no, s_getI 0 5, s_no, s_no, s_icne 95, s_no, s_no, s_iload 3 1, s_istore 2 1, s_iinc 3 1, s_no, s_no, s_goto 16, s_no, s_no, s_iload 2 1, s_push (-4) 2, s_no, s_iceq 111, s_no, s_no, s_iload 1 1, s_ifne 115, s_no, s_no, s_iload 2 1, s_goto 120, s_no, s_no, s_aload 0 1, s_iload 2 1, s_call 4 1 (s_scallI 50 2), s_no, s_no, s_iret]
set_option maxRecDepth 100000 in
theorem f57 : ∀ s ∈ k57, Form s := fc (fm_iload _ _) <| fc (fm_iflt _) <| fc fm_no <| fc fm_no <| fc (fm_iload _ _) <| fc (fm_push _ _) <| fc (fm_icle _) <| fc fm_no <| fc fm_no <| fc (fm_push _ _) <| fc fm_iret <| fc (fm_push _ _) <| fc fm_no <| fc (fm_istore _ _) <| fc (fm_push _ _) <| fc (fm_istore _ _) <| fc (fm_iload _ _) <| fc (fm_push _ _) <| fc (fm_aload _ _) <| fc (fm_getR _ _) <| fc fm_no <| fc fm_no <| fc (fm_getI _ _) <| fc fm_no <| fc fm_no <| fc (fm_bin _) <| fc (fm_icge _) <| fc fm_no <| fc fm_no <| fc (fm_iload _ _) <| fc (fm_push _ _) <| fc fm_no <| fc (fm_iceq _) <| fc fm_no <| fc fm_no <| fc (fm_aload _ _) <| fc (fm_iload _ _) <| fc (fm_call _ _ _ (fm_scallI _ _)) <| fc fm_no <| fc fm_no <| fc (fm_aload _ _) <| fc (fm_iload _ _) <| fc (fm_call _ _ _ (fm_scallI _ _)) <| fc fm_no <| fc fm_no <| fc (fm_iclt _) <| fc fm_no <| fc fm_no <| fc (fm_goto _) <| fc fm_no <| fc fm_no <| fc (fm_aload _ _) <| fc (fm_getR _ _) <| fc fm_no <| fc fm_no <| fc (fm_aload _ _) <| fc (fm_getR _ _) <| fc fm_no <| fc fm_no <| fc (fm_aload _ _) <| fc (fm_getR _ _) <| fc fm_no <| fc fm_no <| fc (fm_aload _ _) <| fc (fm_getR _ _) <| fc fm_no <| fc fm_no <| fc (fm_getI _ _) <| fc fm_no <| fc fm_no <| fc (fm_iload _ _) <| fc (fm_push _ _) <| fc fm_no <| fc (fm_call _ _ _ (fm_scallV _ _)) <| fc fm_no <| fc fm_no <| fc (fm_aload _ _) <| fc (fm_getR _ _) <| fc fm_no <| fc fm_no <| fc (fm_getI _ _) <| fc fm_no <| fc fm_no <| fc (fm_aload _ _) <| fc (fm_getR _ _) <| fc fm_no <| fc fm_no <| fc (fm_getI _ _) <| fc fm_no <| fc fm_no <| fc (fm_icne _) <| fc fm_no <| fc fm_no <| fc (fm_iload _ _) <| fc (fm_istore _ _) <| fc (fm_iinc _ _) <| fc fm_no <| fc fm_no <| fc (fm_goto _) <| fc fm_no <| fc fm_no <| fc (fm_iload _ _) <| fc (fm_push _ _) <| fc fm_no <| fc (fm_iceq _) <| fc fm_no <| fc fm_no <| fc (fm_iload _ _) <| fc (fm_ifne _) <| fc fm_no <| fc fm_no <| fc (fm_iload _ _) <| fc (fm_goto _) <| fc fm_no <| fc fm_no <| fc (fm_aload _ _) <| fc (fm_iload _ _) <| fc (fm_call _ _ _ (fm_scallI _ _)) <| fc fm_no <| fc fm_no <| fc fm_iret <| fc_0
-- 58: SecondOboe.rests()I
def k58 : List Step := [s_push 0 1, s_istore 1 1, s_push 0 1, s_istore 2 1, s_iload 2 1, s_aload 0 1, s_getR 4 1, s_no, s_no, s_getI 0 5, s_no, s_no, s_icge 32, s_no, s_no, s_iload 1 1, s_aload 0 1, s_iload 2 1, s_call 4 1 (s_scallI 44 2), s_no, s_no, s_scallI 12 1, s_no, s_no, s_bin iAd, s_istore 1 1, s_iinc 2 1, s_no, s_no, s_goto 4, s_no, s_no, s_iload 1 1, s_iret]
set_option maxRecDepth 100000 in
theorem f58 : ∀ s ∈ k58, Form s := fc (fm_push _ _) <| fc (fm_istore _ _) <| fc (fm_push _ _) <| fc (fm_istore _ _) <| fc (fm_iload _ _) <| fc (fm_aload _ _) <| fc (fm_getR _ _) <| fc fm_no <| fc fm_no <| fc (fm_getI _ _) <| fc fm_no <| fc fm_no <| fc (fm_icge _) <| fc fm_no <| fc fm_no <| fc (fm_iload _ _) <| fc (fm_aload _ _) <| fc (fm_iload _ _) <| fc (fm_call _ _ _ (fm_scallI _ _)) <| fc fm_no <| fc fm_no <| fc (fm_scallI _ _) <| fc fm_no <| fc fm_no <| fc (fm_bin _) <| fc (fm_istore _ _) <| fc (fm_iinc _ _) <| fc fm_no <| fc fm_no <| fc (fm_goto _) <| fc fm_no <| fc fm_no <| fc (fm_iload _ _) <| fc fm_iret <| fc_0
-- 59: SecondOboe.silence(I)I
def k59 : List Step := [s_aload 0 1, s_iload 1 1, s_call 4 1 (s_scallI 37 2), s_no, s_no, s_ifne 10, s_no, s_no, s_push (-1) 1, s_iret, s_aload 0 1, s_getR 4 7, s_no, s_no, s_aload 0 1, s_getR 4 1, s_no, s_no, s_aload 0 1, s_getR 4 2, s_no, s_no, s_aload 0 1, s_getR 4 1, s_no, s_no, s_getI 0 8, s_no, s_no, s_aload 0 1, s_getI 4 3, s_no, s_no, s_push 127 2, s_no, s_push 1 1, s_iload 1 1, s_bin bsl, s_push (-1) 1, s_bin bxo, s_bin ban, s_call 1 5 (s_scallV 13 6), s_no, s_no, s_aload 0 1, s_getR 4 4, s_no, s_no, s_getI 1 2, s_no, s_no, s_aload 0 1, s_getR 4 7, s_no, s_no, s_getI 1 2, s_no, s_no, s_bin iSu, s_push 100 2, s_no, s_bin iAd, s_iret]
set_option maxRecDepth 100000 in
theorem f59 : ∀ s ∈ k59, Form s := fc (fm_aload _ _) <| fc (fm_iload _ _) <| fc (fm_call _ _ _ (fm_scallI _ _)) <| fc fm_no <| fc fm_no <| fc (fm_ifne _) <| fc fm_no <| fc fm_no <| fc (fm_push _ _) <| fc fm_iret <| fc (fm_aload _ _) <| fc (fm_getR _ _) <| fc fm_no <| fc fm_no <| fc (fm_aload _ _) <| fc (fm_getR _ _) <| fc fm_no <| fc fm_no <| fc (fm_aload _ _) <| fc (fm_getR _ _) <| fc fm_no <| fc fm_no <| fc (fm_aload _ _) <| fc (fm_getR _ _) <| fc fm_no <| fc fm_no <| fc (fm_getI _ _) <| fc fm_no <| fc fm_no <| fc (fm_aload _ _) <| fc (fm_getI _ _) <| fc fm_no <| fc fm_no <| fc (fm_push _ _) <| fc fm_no <| fc (fm_push _ _) <| fc (fm_iload _ _) <| fc (fm_bin _) <| fc (fm_push _ _) <| fc (fm_bin _) <| fc (fm_bin _) <| fc (fm_call _ _ _ (fm_scallV _ _)) <| fc fm_no <| fc fm_no <| fc (fm_aload _ _) <| fc (fm_getR _ _) <| fc fm_no <| fc fm_no <| fc (fm_getI _ _) <| fc fm_no <| fc fm_no <| fc (fm_aload _ _) <| fc (fm_getR _ _) <| fc fm_no <| fc fm_no <| fc (fm_getI _ _) <| fc fm_no <| fc fm_no <| fc (fm_bin _) <| fc (fm_push _ _) <| fc fm_no <| fc (fm_bin _) <| fc fm_iret <| fc_0
-- 60: SecondOboe.alike()I
def k60 : List Step := [s_aload 0 1, s_call 4 0 (s_scallR 29 53 1), s_no, s_no, s_getI 3 3, s_no, s_no, s_iret]
set_option maxRecDepth 100000 in
theorem f60 : ∀ s ∈ k60, Form s := fc (fm_aload _ _) <| fc (fm_call _ _ _ (fm_scallR _ _ _)) <| fc fm_no <| fc fm_no <| fc (fm_getI _ _) <| fc fm_no <| fc fm_no <| fc fm_iret <| fc_0
-- 61: SecondOboe.inLowestTerms(III)I
def k61 : List Step := [s_iload 1 1, s_istore 3 1, s_iload 0 1, s_istore 4 2, s_no, s_push 0 1, s_istore 5 2, s_no, s_iload 5 2, s_no, s_push 64 2, s_no, s_icge 39, s_no, s_no, s_iload 4 2, s_no, s_ifle 39, s_no, s_no, s_iload 3 1, s_iload 4 2, s_no, s_dvd irm, s_istore 6 2, s_no, s_iload 4 2, s_no, s_istore 3 1, s_iload 6 2, s_no, s_istore 4 2, s_no, s_iinc 5 1, s_no, s_no, s_goto 8, s_no, s_no, s_iload 3 1, s_push 1 1, s_icge 48, s_no, s_no, s_push 0 1, s_goto 59, s_no, s_no, s_iload 2 1, s_ifne 56, s_no, s_no, s_iload 0 1, s_goto 57, s_no, s_no, s_iload 1 1, s_iload 3 1, s_dvd idv, s_iret]
set_option maxRecDepth 100000 in
theorem f61 : ∀ s ∈ k61, Form s := fc (fm_iload _ _) <| fc (fm_istore _ _) <| fc (fm_iload _ _) <| fc (fm_istore _ _) <| fc fm_no <| fc (fm_push _ _) <| fc (fm_istore _ _) <| fc fm_no <| fc (fm_iload _ _) <| fc fm_no <| fc (fm_push _ _) <| fc fm_no <| fc (fm_icge _) <| fc fm_no <| fc fm_no <| fc (fm_iload _ _) <| fc fm_no <| fc (fm_ifle _) <| fc fm_no <| fc fm_no <| fc (fm_iload _ _) <| fc (fm_iload _ _) <| fc fm_no <| fc (fm_dvd _) <| fc (fm_istore _ _) <| fc fm_no <| fc (fm_iload _ _) <| fc fm_no <| fc (fm_istore _ _) <| fc (fm_iload _ _) <| fc fm_no <| fc (fm_istore _ _) <| fc fm_no <| fc (fm_iinc _ _) <| fc fm_no <| fc fm_no <| fc (fm_goto _) <| fc fm_no <| fc fm_no <| fc (fm_iload _ _) <| fc (fm_push _ _) <| fc (fm_icge _) <| fc fm_no <| fc fm_no <| fc (fm_push _ _) <| fc (fm_goto _) <| fc fm_no <| fc fm_no <| fc (fm_iload _ _) <| fc (fm_ifne _) <| fc fm_no <| fc fm_no <| fc (fm_iload _ _) <| fc (fm_goto _) <| fc fm_no <| fc fm_no <| fc (fm_iload _ _) <| fc (fm_iload _ _) <| fc (fm_dvd _) <| fc fm_iret <| fc_0
-- 62: SecondOboe.odds(I)I
def k62 : List Step := [s_iload 1 1, s_iflt 9, s_no, s_no, s_iload 1 1, s_push 1 1, s_icle 11, s_no, s_no, s_push (-1) 1, s_iret, s_aload 0 1, s_call 4 0 (s_scallR 29 53 1), s_no, s_no, s_getI 3 2, s_no, s_no, s_aload 0 1, s_getR 4 5, s_no, s_no, s_getI 3 1, s_no, s_no, s_iload 1 1, s_scallI 61 3, s_no, s_no, s_iret]
set_option maxRecDepth 100000 in
theorem f62 : ∀ s ∈ k62, Form s := fc (fm_iload _ _) <| fc (fm_iflt _) <| fc fm_no <| fc fm_no <| fc (fm_iload _ _) <| fc (fm_push _ _) <| fc (fm_icle _) <| fc fm_no <| fc fm_no <| fc (fm_push _ _) <| fc fm_iret <| fc (fm_aload _ _) <| fc (fm_call _ _ _ (fm_scallR _ _ _)) <| fc fm_no <| fc fm_no <| fc (fm_getI _ _) <| fc fm_no <| fc fm_no <| fc (fm_aload _ _) <| fc (fm_getR _ _) <| fc fm_no <| fc fm_no <| fc (fm_getI _ _) <| fc fm_no <| fc fm_no <| fc (fm_iload _ _) <| fc (fm_scallI _ _) <| fc fm_no <| fc fm_no <| fc fm_iret <| fc_0
-- 63: SecondOboe.atLeast(II)I
def k63 : List Step := [s_iload 1 1, s_iflt 19, s_no, s_no, s_iload 1 1, s_push 56 2, s_no, s_icgt 19, s_no, s_no, s_iload 2 1, s_iflt 19, s_no, s_no, s_iload 2 1, s_push 1 1, s_icle 21, s_no, s_no, s_push (-1) 1, s_iret, s_push 0 1, s_istore 3 1, s_iload 1 1, s_istore 4 2, s_no, s_iload 4 2, s_no, s_push 56 2, s_no, s_icgt 52, s_no, s_no, s_iload 3 1, s_aload 0 1, s_call 4 0 (s_scallR 29 53 1), s_no, s_no, s_getR 3 7, s_no, s_no, s_iload 4 2, s_no, s_iald, s_bin iAd, s_istore 3 1, s_iinc 4 1, s_no, s_no, s_goto 26, s_no, s_no, s_iload 3 1, s_aload 0 1, s_getR 4 5, s_no, s_no, s_getI 3 1, s_no, s_no, s_iload 2 1, s_scallI 61 3, s_no, s_no, s_iret]
set_option maxRecDepth 100000 in
theorem f63 : ∀ s ∈ k63, Form s := fc (fm_iload _ _) <| fc (fm_iflt _) <| fc fm_no <| fc fm_no <| fc (fm_iload _ _) <| fc (fm_push _ _) <| fc fm_no <| fc (fm_icgt _) <| fc fm_no <| fc fm_no <| fc (fm_iload _ _) <| fc (fm_iflt _) <| fc fm_no <| fc fm_no <| fc (fm_iload _ _) <| fc (fm_push _ _) <| fc (fm_icle _) <| fc fm_no <| fc fm_no <| fc (fm_push _ _) <| fc fm_iret <| fc (fm_push _ _) <| fc (fm_istore _ _) <| fc (fm_iload _ _) <| fc (fm_istore _ _) <| fc fm_no <| fc (fm_iload _ _) <| fc fm_no <| fc (fm_push _ _) <| fc fm_no <| fc (fm_icgt _) <| fc fm_no <| fc fm_no <| fc (fm_iload _ _) <| fc (fm_aload _ _) <| fc (fm_call _ _ _ (fm_scallR _ _ _)) <| fc fm_no <| fc fm_no <| fc (fm_getR _ _) <| fc fm_no <| fc fm_no <| fc (fm_iload _ _) <| fc fm_no <| fc fm_iald <| fc (fm_bin _) <| fc (fm_istore _ _) <| fc (fm_iinc _ _) <| fc fm_no <| fc fm_no <| fc (fm_goto _) <| fc fm_no <| fc fm_no <| fc (fm_iload _ _) <| fc (fm_aload _ _) <| fc (fm_getR _ _) <| fc fm_no <| fc fm_no <| fc (fm_getI _ _) <| fc fm_no <| fc fm_no <| fc (fm_iload _ _) <| fc (fm_scallI _ _) <| fc fm_no <| fc fm_no <| fc fm_iret <| fc_0
-- 64: SecondOboe.heard(III)I
def k64 : List Step := [s_aload 0 1, s_iload 1 1, s_call 4 1 (s_scallI 37 2), s_no, s_no, s_ifeq 25, s_no, s_no, s_aload 0 1, s_iload 2 1, s_call 4 1 (s_scallI 41 2), s_no, s_no, s_ifeq 25, s_no, s_no, s_iload 3 1, s_iflt 25, s_no, s_no, s_iload 3 1, s_push 1 1, s_icle 27, s_no, s_no, s_push (-1) 1, s_iret, s_aload 0 1, s_getI 4 13, s_no, s_no, s_push 8 2, s_no, s_iclt 39, s_no, s_no, s_push (-3) 2, s_no, s_iret, s_aload 0 1, s_getR 4 10, s_no, s_no, s_aload 0 1, s_getI 4 13, s_no, s_no, s_iload 1 1, s_iast, s_aload 0 1, s_getR 4 11, s_no, s_no, s_aload 0 1, s_getI 4 13, s_no, s_no, s_iload 2 1, s_iast, s_aload 0 1, s_getR 4 12, s_no, s_no, s_aload 0 1, s_getI 4 13, s_no, s_no, s_iload 3 1, s_iast, s_aload 0 1, s_dup, s_getI 4 13, s_no, s_no, s_push 1 1, s_bin iAd, s_putI 4 13, s_no, s_no, s_aload 0 1, s_getI 4 13, s_no, s_no, s_iret]
set_option maxRecDepth 100000 in
theorem f64 : ∀ s ∈ k64, Form s := fc (fm_aload _ _) <| fc (fm_iload _ _) <| fc (fm_call _ _ _ (fm_scallI _ _)) <| fc fm_no <| fc fm_no <| fc (fm_ifeq _) <| fc fm_no <| fc fm_no <| fc (fm_aload _ _) <| fc (fm_iload _ _) <| fc (fm_call _ _ _ (fm_scallI _ _)) <| fc fm_no <| fc fm_no <| fc (fm_ifeq _) <| fc fm_no <| fc fm_no <| fc (fm_iload _ _) <| fc (fm_iflt _) <| fc fm_no <| fc fm_no <| fc (fm_iload _ _) <| fc (fm_push _ _) <| fc (fm_icle _) <| fc fm_no <| fc fm_no <| fc (fm_push _ _) <| fc fm_iret <| fc (fm_aload _ _) <| fc (fm_getI _ _) <| fc fm_no <| fc fm_no <| fc (fm_push _ _) <| fc fm_no <| fc (fm_iclt _) <| fc fm_no <| fc fm_no <| fc (fm_push _ _) <| fc fm_no <| fc fm_iret <| fc (fm_aload _ _) <| fc (fm_getR _ _) <| fc fm_no <| fc fm_no <| fc (fm_aload _ _) <| fc (fm_getI _ _) <| fc fm_no <| fc fm_no <| fc (fm_iload _ _) <| fc fm_iast <| fc (fm_aload _ _) <| fc (fm_getR _ _) <| fc fm_no <| fc fm_no <| fc (fm_aload _ _) <| fc (fm_getI _ _) <| fc fm_no <| fc fm_no <| fc (fm_iload _ _) <| fc fm_iast <| fc (fm_aload _ _) <| fc (fm_getR _ _) <| fc fm_no <| fc fm_no <| fc (fm_aload _ _) <| fc (fm_getI _ _) <| fc fm_no <| fc fm_no <| fc (fm_iload _ _) <| fc fm_iast <| fc (fm_aload _ _) <| fc fm_dup <| fc (fm_getI _ _) <| fc fm_no <| fc fm_no <| fc (fm_push _ _) <| fc (fm_bin _) <| fc (fm_putI _ _ (by decide)) <| fc fm_no <| fc fm_no <| fc (fm_aload _ _) <| fc (fm_getI _ _) <| fc fm_no <| fc fm_no <| fc fm_iret <| fc_0
-- 65: SecondOboe.forget()I
def k65 : List Step := [s_aload 0 1, s_getI 4 13, s_no, s_no, s_istore 1 1, s_aload 0 1, s_push 0 1, s_putI 4 13, s_no, s_no, s_iload 1 1, s_iret]
set_option maxRecDepth 100000 in
theorem f65 : ∀ s ∈ k65, Form s := fc (fm_aload _ _) <| fc (fm_getI _ _) <| fc fm_no <| fc fm_no <| fc (fm_istore _ _) <| fc (fm_aload _ _) <| fc (fm_push _ _) <| fc (fm_putI _ _ (by decide)) <| fc fm_no <| fc fm_no <| fc (fm_iload _ _) <| fc fm_iret <| fc_0
-- 66: SecondOboe.agreesWithHeard(ILSecondOboe$Evening;)Z
def k66 : List Step := [s_push 0 1, s_istore 3 1, s_iload 3 1, s_aload 0 1, s_getI 4 13, s_no, s_no, s_icge 52, s_no, s_no, s_aload 0 1, s_getR 4 10, s_no, s_no, s_iload 3 1, s_iald, s_iload 1 1, s_icne 46, s_no, s_no, s_aload 2 1, s_getR 1 1, s_no, s_no, s_aload 0 1, s_getR 4 11, s_no, s_no, s_iload 3 1, s_iald, s_iald, s_iload 1 1, s_bin bsr, s_push 1 1, s_bin ban, s_aload 0 1, s_getR 4 12, s_no, s_no, s_iload 3 1, s_iald, s_iceq 46, s_no, s_no, s_push 0 1, s_zret, s_iinc 3 1, s_no, s_no, s_goto 2, s_no, s_no, s_push 1 1, s_zret]
set_option maxRecDepth 100000 in
theorem f66 : ∀ s ∈ k66, Form s := fc (fm_push _ _) <| fc (fm_istore _ _) <| fc (fm_iload _ _) <| fc (fm_aload _ _) <| fc (fm_getI _ _) <| fc fm_no <| fc fm_no <| fc (fm_icge _) <| fc fm_no <| fc fm_no <| fc (fm_aload _ _) <| fc (fm_getR _ _) <| fc fm_no <| fc fm_no <| fc (fm_iload _ _) <| fc fm_iald <| fc (fm_iload _ _) <| fc (fm_icne _) <| fc fm_no <| fc fm_no <| fc (fm_aload _ _) <| fc (fm_getR _ _) <| fc fm_no <| fc fm_no <| fc (fm_aload _ _) <| fc (fm_getR _ _) <| fc fm_no <| fc fm_no <| fc (fm_iload _ _) <| fc fm_iald <| fc fm_iald <| fc (fm_iload _ _) <| fc (fm_bin _) <| fc (fm_push _ _) <| fc (fm_bin _) <| fc (fm_aload _ _) <| fc (fm_getR _ _) <| fc fm_no <| fc fm_no <| fc (fm_iload _ _) <| fc fm_iald <| fc (fm_iceq _) <| fc fm_no <| fc fm_no <| fc (fm_push _ _) <| fc fm_zret <| fc (fm_iinc _ _) <| fc fm_no <| fc fm_no <| fc (fm_goto _) <| fc fm_no <| fc fm_no <| fc (fm_push _ _) <| fc fm_zret <| fc_0
-- 67: SecondOboe.kinds(I)I
def k67 : List Step := [s_aload 0 1, s_iload 1 1, s_call 4 1 (s_scallI 37 2), s_no, s_no, s_ifne 10, s_no, s_no, s_push (-1) 1, s_iret, s_aload 0 1, s_getR 4 1, s_no, s_no, s_getR 0 0, s_no, s_no, s_iload 1 1, s_iald, s_istore 2 1, s_push 0 1, s_istore 3 1, s_push 0 1, s_istore 4 2, s_no, s_iload 4 2, s_no, s_push 4 1, s_icge 101, s_no, s_no, s_aload 0 1, s_getR 4 1, s_no, s_no, s_getR 0 0, s_no, s_no, s_iload 1 1, s_iload 4 2, s_no, s_iast, s_aload 0 1, s_getR 4 7, s_no, s_no, s_aload 0 1, s_getR 4 1, s_no, s_no, s_aload 0 1, s_getR 4 2, s_no, s_no, s_aload 0 1, s_getR 4 1, s_no, s_no, s_getI 0 8, s_no, s_no, s_aload 0 1, s_getI 4 3, s_no, s_no, s_push 1 1, s_iload 1 1, s_bin bsl, s_push (-1) 1, s_bin bxo, s_bin ban, s_push 127 2, s_no, s_call 1 5 (s_scallV 13 6), s_no, s_no, s_aload 0 1, s_iload 1 1, s_aload 0 1, s_getR 4 7, s_no, s_no, s_call 4 2 (s_scallI 66 3), s_no, s_no, s_ifeq 95, s_no, s_no, s_iload 3 1, s_push 1 1, s_iload 4 2, s_no, s_bin bsl, s_bin bor, s_istore 3 1, s_iinc 4 1, s_no, s_no, s_goto 25, s_no, s_no, s_aload 0 1, s_getR 4 1, s_no, s_no, s_getR 0 0, s_no, s_no, s_iload 1 1, s_iload 2 1, s_iast, s_iload 3 1, s_iret]
set_option maxRecDepth 100000 in
theorem f67 : ∀ s ∈ k67, Form s := fc (fm_aload _ _) <| fc (fm_iload _ _) <| fc (fm_call _ _ _ (fm_scallI _ _)) <| fc fm_no <| fc fm_no <| fc (fm_ifne _) <| fc fm_no <| fc fm_no <| fc (fm_push _ _) <| fc fm_iret <| fc (fm_aload _ _) <| fc (fm_getR _ _) <| fc fm_no <| fc fm_no <| fc (fm_getR _ _) <| fc fm_no <| fc fm_no <| fc (fm_iload _ _) <| fc fm_iald <| fc (fm_istore _ _) <| fc (fm_push _ _) <| fc (fm_istore _ _) <| fc (fm_push _ _) <| fc (fm_istore _ _) <| fc fm_no <| fc (fm_iload _ _) <| fc fm_no <| fc (fm_push _ _) <| fc (fm_icge _) <| fc fm_no <| fc fm_no <| fc (fm_aload _ _) <| fc (fm_getR _ _) <| fc fm_no <| fc fm_no <| fc (fm_getR _ _) <| fc fm_no <| fc fm_no <| fc (fm_iload _ _) <| fc (fm_iload _ _) <| fc fm_no <| fc fm_iast <| fc (fm_aload _ _) <| fc (fm_getR _ _) <| fc fm_no <| fc fm_no <| fc (fm_aload _ _) <| fc (fm_getR _ _) <| fc fm_no <| fc fm_no <| fc (fm_aload _ _) <| fc (fm_getR _ _) <| fc fm_no <| fc fm_no <| fc (fm_aload _ _) <| fc (fm_getR _ _) <| fc fm_no <| fc fm_no <| fc (fm_getI _ _) <| fc fm_no <| fc fm_no <| fc (fm_aload _ _) <| fc (fm_getI _ _) <| fc fm_no <| fc fm_no <| fc (fm_push _ _) <| fc (fm_iload _ _) <| fc (fm_bin _) <| fc (fm_push _ _) <| fc (fm_bin _) <| fc (fm_bin _) <| fc (fm_push _ _) <| fc fm_no <| fc (fm_call _ _ _ (fm_scallV _ _)) <| fc fm_no <| fc fm_no <| fc (fm_aload _ _) <| fc (fm_iload _ _) <| fc (fm_aload _ _) <| fc (fm_getR _ _) <| fc fm_no <| fc fm_no <| fc (fm_call _ _ _ (fm_scallI _ _)) <| fc fm_no <| fc fm_no <| fc (fm_ifeq _) <| fc fm_no <| fc fm_no <| fc (fm_iload _ _) <| fc (fm_push _ _) <| fc (fm_iload _ _) <| fc fm_no <| fc (fm_bin _) <| fc (fm_bin _) <| fc (fm_istore _ _) <| fc (fm_iinc _ _) <| fc fm_no <| fc fm_no <| fc (fm_goto _) <| fc fm_no <| fc fm_no <| fc (fm_aload _ _) <| fc (fm_getR _ _) <| fc fm_no <| fc fm_no <| fc (fm_getR _ _) <| fc fm_no <| fc fm_no <| fc (fm_iload _ _) <| fc (fm_iload _ _) <| fc fm_iast <| fc (fm_iload _ _) <| fc fm_iret <| fc_0
-- 68: SecondOboe.hall(I)I
def k68 : List Step := [s_iload 1 1, s_push 9 2, s_no, s_iceq 25, s_no, s_no, s_iload 1 1, s_iflt 23, s_no, s_no, s_iload 1 1, s_aload 0 1, s_getR 4 1, s_no, s_no, s_getI 0 3, s_no, s_no, s_push 2 1, s_bin iSu, s_icle 25, s_no, s_no, s_push (-1) 1, s_iret, s_aload 0 1, s_getR 4 7, s_no, s_no, s_aload 0 1, s_getR 4 1, s_no, s_no, s_aload 0 1, s_getR 4 2, s_no, s_no, s_iload 1 1, s_push 9 2, s_no, s_icne 47, s_no, s_no, s_push 0 1, s_goto 50, s_no, s_no, s_push 1 1, s_iload 1 1, s_bin bsl, s_aload 0 1, s_getI 4 3, s_no, s_no, s_push 127 2, s_no, s_call 1 5 (s_scallV 13 6), s_no, s_no, s_aload 0 1, s_getR 4 7, s_no, s_no, s_getI 1 2, s_no, s_no, s_iret]
set_option maxRecDepth 100000 in
theorem f68 : ∀ s ∈ k68, Form s := fc (fm_iload _ _) <| fc (fm_push _ _) <| fc fm_no <| fc (fm_iceq _) <| fc fm_no <| fc fm_no <| fc (fm_iload _ _) <| fc (fm_iflt _) <| fc fm_no <| fc fm_no <| fc (fm_iload _ _) <| fc (fm_aload _ _) <| fc (fm_getR _ _) <| fc fm_no <| fc fm_no <| fc (fm_getI _ _) <| fc fm_no <| fc fm_no <| fc (fm_push _ _) <| fc (fm_bin _) <| fc (fm_icle _) <| fc fm_no <| fc fm_no <| fc (fm_push _ _) <| fc fm_iret <| fc (fm_aload _ _) <| fc (fm_getR _ _) <| fc fm_no <| fc fm_no <| fc (fm_aload _ _) <| fc (fm_getR _ _) <| fc fm_no <| fc fm_no <| fc (fm_aload _ _) <| fc (fm_getR _ _) <| fc fm_no <| fc fm_no <| fc (fm_iload _ _) <| fc (fm_push _ _) <| fc fm_no <| fc (fm_icne _) <| fc fm_no <| fc fm_no <| fc (fm_push _ _) <| fc (fm_goto _) <| fc fm_no <| fc fm_no <| fc (fm_push _ _) <| fc (fm_iload _ _) <| fc (fm_bin _) <| fc (fm_aload _ _) <| fc (fm_getI _ _) <| fc fm_no <| fc fm_no <| fc (fm_push _ _) <| fc fm_no <| fc (fm_call _ _ _ (fm_scallV _ _)) <| fc fm_no <| fc fm_no <| fc (fm_aload _ _) <| fc (fm_getR _ _) <| fc fm_no <| fc fm_no <| fc (fm_getI _ _) <| fc fm_no <| fc fm_no <| fc fm_iret <| fc_0
-- 69: SecondOboe.draw(II)I
def k69 : List Step := [s_lpush 7919 3, s_no, s_no, s_iload 0 1, s_i2l, s_lbin iMu, s_lpush 6151 3, s_no, s_no, s_iload 1 1, s_i2l, s_lbin iMu, s_lbin iAd, s_lpush 1 1, s_lbin iAd, s_lstore 2 1, s_lload 2 1, s_lload 2 1, s_lbin iMu, s_lpush 65521 3, s_no, s_no, s_ldvd lrm, s_lpush 4 3, s_no, s_no, s_ldvd ldv, s_l2i, s_iret]
set_option maxRecDepth 100000 in
theorem f69 : ∀ s ∈ k69, Form s := fc (fm_lpush _ _) <| fc fm_no <| fc fm_no <| fc (fm_iload _ _) <| fc fm_i2l <| fc (fm_lbin _) <| fc (fm_lpush _ _) <| fc fm_no <| fc fm_no <| fc (fm_iload _ _) <| fc fm_i2l <| fc (fm_lbin _) <| fc (fm_lbin _) <| fc (fm_lpush _ _) <| fc (fm_lbin _) <| fc (fm_lstore _ _) <| fc (fm_lload _ _) <| fc (fm_lload _ _) <| fc (fm_lbin _) <| fc (fm_lpush _ _) <| fc fm_no <| fc fm_no <| fc (fm_ldvd _) <| fc (fm_lpush _ _) <| fc fm_no <| fc fm_no <| fc (fm_ldvd _) <| fc fm_l2i <| fc fm_iret <| fc_0
-- 70: SecondOboe.tour(III)I
def k70 : List Step := [s_iload 1 1, s_iflt 31, s_no, s_no, s_iload 1 1, s_push 9999 3, s_no, s_no, s_icgt 31, s_no, s_no, s_iload 2 1, s_push 1 1, s_iclt 31, s_no, s_no, s_iload 2 1, s_push 20 2, s_no, s_icgt 31, s_no, s_no, s_iload 3 1, s_iflt 31, s_no, s_no, s_iload 3 1, s_push 1 1, s_icle 33, s_no, s_no, s_push (-1) 1, s_iret, s_push 1 1, s_aload 0 1, s_getR 4 1, s_no, s_no, s_getI 0 3, s_no, s_no, s_max, s_no, s_no, s_istore 4 2, s_no, s_push 0 1, s_istore 5 2, s_no, s_push 0 1, s_istore 6 2, s_no, s_aload 0 1, s_getR 4 2, s_no, s_no, s_push 0 1, s_aload 0 1, s_getR 4 6, s_no, s_no, s_push 0 1, s_aload 0 1, s_getR 4 2, s_no, s_no, s_alen, s_copy, s_no, s_no, s_push 0 1, s_istore 7 2, s_no, s_iload 7 2, s_no, s_iload 2 1, s_icge 182, s_no, s_no, s_iload 1 1, s_iload 7 2, s_no, s_scallI 69 2, s_no, s_no, s_istore 8 2, s_no, s_aload 0 1, s_getR 4 6, s_no, s_no, s_iload 8 2, s_no, s_iload 4 2, s_no, s_dvd irm, s_iload 8 2, s_no, s_push 8 2, s_no, s_dvd idv, s_iload 4 2, s_no, s_dvd irm, s_scallV 27 3, s_no, s_no, s_aload 0 1, s_getR 4 7, s_no, s_no, s_aload 0 1, s_getR 4 1, s_no, s_no, s_aload 0 1, s_getR 4 6, s_no, s_no, s_aload 0 1, s_getR 4 1, s_no, s_no, s_getI 0 8, s_no, s_no, s_aload 0 1, s_getI 4 3, s_no, s_no, s_push 127 2, s_no, s_call 1 5 (s_scallV 13 6), s_no, s_no, s_iload 5 2, s_no, s_aload 0 1, s_getR 4 7, s_no, s_no, s_getI 1 3, s_no, s_no, s_aload 0 1, s_getR 4 1, s_no, s_no, s_getI 0 5, s_no, s_no, s_icne 158, s_no, s_no, s_push 1 1, s_goto 159, s_no, s_no, s_push 0 1, s_bin iAd, s_istore 5 2, s_no, s_iload 6 2, s_no, s_aload 0 1, s_getR 4 7, s_no, s_no, s_getI 1 2, s_no, s_no, s_max, s_no, s_no, s_istore 6 2, s_no, s_iinc 7 1, s_no, s_no, s_goto 73, s_no, s_no, s_iload 3 1, s_ifne 191, s_no, s_no, s_iload 5 2, s_no, s_goto 193, s_no, s_no, s_iload 6 2, s_no, s_iret]
set_option maxRecDepth 100000 in
theorem f70 : ∀ s ∈ k70, Form s := fc (fm_iload _ _) <| fc (fm_iflt _) <| fc fm_no <| fc fm_no <| fc (fm_iload _ _) <| fc (fm_push _ _) <| fc fm_no <| fc fm_no <| fc (fm_icgt _) <| fc fm_no <| fc fm_no <| fc (fm_iload _ _) <| fc (fm_push _ _) <| fc (fm_iclt _) <| fc fm_no <| fc fm_no <| fc (fm_iload _ _) <| fc (fm_push _ _) <| fc fm_no <| fc (fm_icgt _) <| fc fm_no <| fc fm_no <| fc (fm_iload _ _) <| fc (fm_iflt _) <| fc fm_no <| fc fm_no <| fc (fm_iload _ _) <| fc (fm_push _ _) <| fc (fm_icle _) <| fc fm_no <| fc fm_no <| fc (fm_push _ _) <| fc fm_iret <| fc (fm_push _ _) <| fc (fm_aload _ _) <| fc (fm_getR _ _) <| fc fm_no <| fc fm_no <| fc (fm_getI _ _) <| fc fm_no <| fc fm_no <| fc fm_max <| fc fm_no <| fc fm_no <| fc (fm_istore _ _) <| fc fm_no <| fc (fm_push _ _) <| fc (fm_istore _ _) <| fc fm_no <| fc (fm_push _ _) <| fc (fm_istore _ _) <| fc fm_no <| fc (fm_aload _ _) <| fc (fm_getR _ _) <| fc fm_no <| fc fm_no <| fc (fm_push _ _) <| fc (fm_aload _ _) <| fc (fm_getR _ _) <| fc fm_no <| fc fm_no <| fc (fm_push _ _) <| fc (fm_aload _ _) <| fc (fm_getR _ _) <| fc fm_no <| fc fm_no <| fc fm_alen <| fc fm_copy <| fc fm_no <| fc fm_no <| fc (fm_push _ _) <| fc (fm_istore _ _) <| fc fm_no <| fc (fm_iload _ _) <| fc fm_no <| fc (fm_iload _ _) <| fc (fm_icge _) <| fc fm_no <| fc fm_no <| fc (fm_iload _ _) <| fc (fm_iload _ _) <| fc fm_no <| fc (fm_scallI _ _) <| fc fm_no <| fc fm_no <| fc (fm_istore _ _) <| fc fm_no <| fc (fm_aload _ _) <| fc (fm_getR _ _) <| fc fm_no <| fc fm_no <| fc (fm_iload _ _) <| fc fm_no <| fc (fm_iload _ _) <| fc fm_no <| fc (fm_dvd _) <| fc (fm_iload _ _) <| fc fm_no <| fc (fm_push _ _) <| fc fm_no <| fc (fm_dvd _) <| fc (fm_iload _ _) <| fc fm_no <| fc (fm_dvd _) <| fc (fm_scallV _ _) <| fc fm_no <| fc fm_no <| fc (fm_aload _ _) <| fc (fm_getR _ _) <| fc fm_no <| fc fm_no <| fc (fm_aload _ _) <| fc (fm_getR _ _) <| fc fm_no <| fc fm_no <| fc (fm_aload _ _) <| fc (fm_getR _ _) <| fc fm_no <| fc fm_no <| fc (fm_aload _ _) <| fc (fm_getR _ _) <| fc fm_no <| fc fm_no <| fc (fm_getI _ _) <| fc fm_no <| fc fm_no <| fc (fm_aload _ _) <| fc (fm_getI _ _) <| fc fm_no <| fc fm_no <| fc (fm_push _ _) <| fc fm_no <| fc (fm_call _ _ _ (fm_scallV _ _)) <| fc fm_no <| fc fm_no <| fc (fm_iload _ _) <| fc fm_no <| fc (fm_aload _ _) <| fc (fm_getR _ _) <| fc fm_no <| fc fm_no <| fc (fm_getI _ _) <| fc fm_no <| fc fm_no <| fc (fm_aload _ _) <| fc (fm_getR _ _) <| fc fm_no <| fc fm_no <| fc (fm_getI _ _) <| fc fm_no <| fc fm_no <| fc (fm_icne _) <| fc fm_no <| fc fm_no <| fc (fm_push _ _) <| fc (fm_goto _) <| fc fm_no <| fc fm_no <| fc (fm_push _ _) <| fc (fm_bin _) <| fc (fm_istore _ _) <| fc fm_no <| fc (fm_iload _ _) <| fc fm_no <| fc (fm_aload _ _) <| fc (fm_getR _ _) <| fc fm_no <| fc fm_no <| fc (fm_getI _ _) <| fc fm_no <| fc fm_no <| fc fm_max <| fc fm_no <| fc fm_no <| fc (fm_istore _ _) <| fc fm_no <| fc (fm_iinc _ _) <| fc fm_no <| fc fm_no <| fc (fm_goto _) <| fc fm_no <| fc fm_no <| fc (fm_iload _ _) <| fc (fm_ifne _) <| fc fm_no <| fc fm_no <| fc (fm_iload _ _) <| fc fm_no <| fc (fm_goto _) <| fc fm_no <| fc fm_no <| fc (fm_iload _ _) <| fc fm_no <| fc fm_iret <| fc_0
-- 71: SecondOboe.keep()I
def k71 : List Step := [s_aload 0 1, s_getI 4 16, s_no, s_no, s_push 2 1, s_iclt 11, s_no, s_no, s_push (-3) 2, s_no, s_iret, s_aload 0 1, s_getR 4 2, s_no, s_no, s_push 0 1, s_aload 0 1, s_getR 4 14, s_no, s_no, s_aload 0 1, s_getI 4 16, s_no, s_no, s_aald, s_push 0 1, s_aload 0 1, s_getR 4 2, s_no, s_no, s_alen, s_copy, s_no, s_no, s_aload 0 1, s_getR 4 15, s_no, s_no, s_aload 0 1, s_getI 4 16, s_no, s_no, s_aload 0 1, s_getI 4 3, s_no, s_no, s_iast, s_aload 0 1, s_dup, s_getI 4 16, s_no, s_no, s_push 1 1, s_bin iAd, s_putI 4 16, s_no, s_no, s_aload 0 1, s_getI 4 16, s_no, s_no, s_iret]
set_option maxRecDepth 100000 in
theorem f71 : ∀ s ∈ k71, Form s := fc (fm_aload _ _) <| fc (fm_getI _ _) <| fc fm_no <| fc fm_no <| fc (fm_push _ _) <| fc (fm_iclt _) <| fc fm_no <| fc fm_no <| fc (fm_push _ _) <| fc fm_no <| fc fm_iret <| fc (fm_aload _ _) <| fc (fm_getR _ _) <| fc fm_no <| fc fm_no <| fc (fm_push _ _) <| fc (fm_aload _ _) <| fc (fm_getR _ _) <| fc fm_no <| fc fm_no <| fc (fm_aload _ _) <| fc (fm_getI _ _) <| fc fm_no <| fc fm_no <| fc fm_aald <| fc (fm_push _ _) <| fc (fm_aload _ _) <| fc (fm_getR _ _) <| fc fm_no <| fc fm_no <| fc fm_alen <| fc fm_copy <| fc fm_no <| fc fm_no <| fc (fm_aload _ _) <| fc (fm_getR _ _) <| fc fm_no <| fc fm_no <| fc (fm_aload _ _) <| fc (fm_getI _ _) <| fc fm_no <| fc fm_no <| fc (fm_aload _ _) <| fc (fm_getI _ _) <| fc fm_no <| fc fm_no <| fc fm_iast <| fc (fm_aload _ _) <| fc fm_dup <| fc (fm_getI _ _) <| fc fm_no <| fc fm_no <| fc (fm_push _ _) <| fc (fm_bin _) <| fc (fm_putI _ _ (by decide)) <| fc fm_no <| fc fm_no <| fc (fm_aload _ _) <| fc (fm_getI _ _) <| fc fm_no <| fc fm_no <| fc fm_iret <| fc_0
-- 72: SecondOboe.back()I
def k72 : List Step := [s_aload 0 1, s_getI 4 16, s_no, s_no, s_push 1 1, s_icge 11, s_no, s_no, s_push (-2) 2, s_no, s_iret, s_aload 0 1, s_dup, s_getI 4 16, s_no, s_no, s_push 1 1, s_bin iSu, s_putI 4 16, s_no, s_no, s_aload 0 1, s_getR 4 14, s_no, s_no, s_aload 0 1, s_getI 4 16, s_no, s_no, s_aald, s_push 0 1, s_aload 0 1, s_getR 4 2, s_no, s_no, s_push 0 1, s_aload 0 1, s_getR 4 2, s_no, s_no, s_alen, s_copy, s_no, s_no, s_aload 0 1, s_aload 0 1, s_getR 4 15, s_no, s_no, s_aload 0 1, s_getI 4 16, s_no, s_no, s_iald, s_putI 4 3, s_no, s_no, s_aload 0 1, s_push 0 1, s_putI 4 9, s_no, s_no, s_aload 0 1, s_call 4 0 (s_scallV 30 1), s_no, s_no, s_aload 0 1, s_getI 4 16, s_no, s_no, s_iret]
set_option maxRecDepth 100000 in
theorem f72 : ∀ s ∈ k72, Form s := fc (fm_aload _ _) <| fc (fm_getI _ _) <| fc fm_no <| fc fm_no <| fc (fm_push _ _) <| fc (fm_icge _) <| fc fm_no <| fc fm_no <| fc (fm_push _ _) <| fc fm_no <| fc fm_iret <| fc (fm_aload _ _) <| fc fm_dup <| fc (fm_getI _ _) <| fc fm_no <| fc fm_no <| fc (fm_push _ _) <| fc (fm_bin _) <| fc (fm_putI _ _ (by decide)) <| fc fm_no <| fc fm_no <| fc (fm_aload _ _) <| fc (fm_getR _ _) <| fc fm_no <| fc fm_no <| fc (fm_aload _ _) <| fc (fm_getI _ _) <| fc fm_no <| fc fm_no <| fc fm_aald <| fc (fm_push _ _) <| fc (fm_aload _ _) <| fc (fm_getR _ _) <| fc fm_no <| fc fm_no <| fc (fm_push _ _) <| fc (fm_aload _ _) <| fc (fm_getR _ _) <| fc fm_no <| fc fm_no <| fc fm_alen <| fc fm_copy <| fc fm_no <| fc fm_no <| fc (fm_aload _ _) <| fc (fm_aload _ _) <| fc (fm_getR _ _) <| fc fm_no <| fc fm_no <| fc (fm_aload _ _) <| fc (fm_getI _ _) <| fc fm_no <| fc fm_no <| fc fm_iald <| fc (fm_putI _ _ (by decide)) <| fc fm_no <| fc fm_no <| fc (fm_aload _ _) <| fc (fm_push _ _) <| fc (fm_putI _ _ (by decide)) <| fc fm_no <| fc fm_no <| fc (fm_aload _ _) <| fc (fm_call _ _ _ (fm_scallV _ _)) <| fc fm_no <| fc fm_no <| fc (fm_aload _ _) <| fc (fm_getI _ _) <| fc fm_no <| fc fm_no <| fc fm_iret <| fc_0
-- 73: SecondOboe.count(I)I
def k73 : List Step := [s_iload 1 1, s_switch [(0, 48), (1, 56), (2, 64), (3, 75), (4, 83), (5, 88), (6, 93), (7, 98)] 106, s_no, s_no, s_no, s_no, s_no, s_no, s_no, s_no, s_no, s_no, s_no, s_no, s_no, s_no, s_no, s_no, s_no, s_no, s_no, s_no, s_no, s_no, s_no, s_no, s_no, s_no, s_no, s_no, s_no, s_no, s_no, s_no, s_no, s_no, s_no, s_no, s_no, s_no, s_no, s_no, s_no, s_no, s_no, s_no, s_no, s_no, s_aload 0 1, s_getR 4 1, s_no, s_no, s_getI 0 3, s_no, s_no, s_iret, s_aload 0 1, s_getR 4 1, s_no, s_no, s_getI 0 5, s_no, s_no, s_iret, s_aload 0 1, s_getR 4 1, s_no, s_no, s_getI 0 8, s_no, s_no, s_scallI 12 1, s_no, s_no, s_iret, s_aload 0 1, s_getI 4 3, s_no, s_no, s_scallI 12 1, s_no, s_no, s_iret, s_aload 0 1, s_getI 4 13, s_no, s_no, s_iret, s_aload 0 1, s_getI 4 9, s_no, s_no, s_iret, s_aload 0 1, s_getI 4 16, s_no, s_no, s_iret, s_aload 0 1, s_getR 4 0, s_no, s_no, s_getI 2 1, s_no, s_no, s_iret, s_push (-1) 1, s_iret]
set_option maxRecDepth 100000 in
theorem f73 : ∀ s ∈ k73, Form s := fc (fm_iload _ _) <| fc (fm_switch _ _) <| fc fm_no <| fc fm_no <| fc fm_no <| fc fm_no <| fc fm_no <| fc fm_no <| fc fm_no <| fc fm_no <| fc fm_no <| fc fm_no <| fc fm_no <| fc fm_no <| fc fm_no <| fc fm_no <| fc fm_no <| fc fm_no <| fc fm_no <| fc fm_no <| fc fm_no <| fc fm_no <| fc fm_no <| fc fm_no <| fc fm_no <| fc fm_no <| fc fm_no <| fc fm_no <| fc fm_no <| fc fm_no <| fc fm_no <| fc fm_no <| fc fm_no <| fc fm_no <| fc fm_no <| fc fm_no <| fc fm_no <| fc fm_no <| fc fm_no <| fc fm_no <| fc fm_no <| fc fm_no <| fc fm_no <| fc fm_no <| fc fm_no <| fc fm_no <| fc fm_no <| fc fm_no <| fc (fm_aload _ _) <| fc (fm_getR _ _) <| fc fm_no <| fc fm_no <| fc (fm_getI _ _) <| fc fm_no <| fc fm_no <| fc fm_iret <| fc (fm_aload _ _) <| fc (fm_getR _ _) <| fc fm_no <| fc fm_no <| fc (fm_getI _ _) <| fc fm_no <| fc fm_no <| fc fm_iret <| fc (fm_aload _ _) <| fc (fm_getR _ _) <| fc fm_no <| fc fm_no <| fc (fm_getI _ _) <| fc fm_no <| fc fm_no <| fc (fm_scallI _ _) <| fc fm_no <| fc fm_no <| fc fm_iret <| fc (fm_aload _ _) <| fc (fm_getI _ _) <| fc fm_no <| fc fm_no <| fc (fm_scallI _ _) <| fc fm_no <| fc fm_no <| fc fm_iret <| fc (fm_aload _ _) <| fc (fm_getI _ _) <| fc fm_no <| fc fm_no <| fc fm_iret <| fc (fm_aload _ _) <| fc (fm_getI _ _) <| fc fm_no <| fc fm_no <| fc fm_iret <| fc (fm_aload _ _) <| fc (fm_getI _ _) <| fc fm_no <| fc fm_no <| fc fm_iret <| fc (fm_aload _ _) <| fc (fm_getR _ _) <| fc fm_no <| fc fm_no <| fc (fm_getI _ _) <| fc fm_no <| fc fm_no <| fc fm_iret <| fc (fm_push _ _) <| fc fm_iret <| fc_0
-- 74: SecondOboeModel.begins()V
def k74 : List Step := [s_push 0 1, s_istore 1 1, s_iload 1 1, s_push 40 2, s_no, s_icge 21, s_no, s_no, s_aload 0 1, s_getR 5 3, s_no, s_no, s_iload 1 1, s_push 0 1, s_iast, s_iinc 1 1, s_no, s_no, s_goto 2, s_no, s_no, s_vret]
set_option maxRecDepth 100000 in
theorem f74 : ∀ s ∈ k74, Form s := fc (fm_push _ _) <| fc (fm_istore _ _) <| fc (fm_iload _ _) <| fc (fm_push _ _) <| fc fm_no <| fc (fm_icge _) <| fc fm_no <| fc fm_no <| fc (fm_aload _ _) <| fc (fm_getR _ _) <| fc fm_no <| fc fm_no <| fc (fm_iload _ _) <| fc (fm_push _ _) <| fc fm_iast <| fc (fm_iinc _ _) <| fc fm_no <| fc fm_no <| fc (fm_goto _) <| fc fm_no <| fc fm_no <| fc fm_vret <| fc_0
-- 75: SecondOboeModel.adds(III)V
def k75 : List Step := [s_aload 0 1, s_getR 5 3, s_no, s_no, s_push 0 1, s_iald, s_istore 4 2, s_no, s_aload 0 1, s_getR 5 3, s_no, s_no, s_push 4 1, s_iload 4 2, s_no, s_bin iAd, s_iload 1 1, s_iast, s_aload 0 1, s_getR 5 3, s_no, s_no, s_push 11 2, s_no, s_iload 4 2, s_no, s_bin iAd, s_iload 2 1, s_iast, s_aload 0 1, s_getR 5 3, s_no, s_no, s_push 18 2, s_no, s_iload 4 2, s_no, s_bin iAd, s_iload 3 1, s_iast, s_aload 0 1, s_getR 5 3, s_no, s_no, s_push 0 1, s_dup2, s_iald, s_push 1 1, s_bin iAd, s_iast, s_vret]
set_option maxRecDepth 100000 in
theorem f75 : ∀ s ∈ k75, Form s := fc (fm_aload _ _) <| fc (fm_getR _ _) <| fc fm_no <| fc fm_no <| fc (fm_push _ _) <| fc fm_iald <| fc (fm_istore _ _) <| fc fm_no <| fc (fm_aload _ _) <| fc (fm_getR _ _) <| fc fm_no <| fc fm_no <| fc (fm_push _ _) <| fc (fm_iload _ _) <| fc fm_no <| fc (fm_bin _) <| fc (fm_iload _ _) <| fc fm_iast <| fc (fm_aload _ _) <| fc (fm_getR _ _) <| fc fm_no <| fc fm_no <| fc (fm_push _ _) <| fc fm_no <| fc (fm_iload _ _) <| fc fm_no <| fc (fm_bin _) <| fc (fm_iload _ _) <| fc fm_iast <| fc (fm_aload _ _) <| fc (fm_getR _ _) <| fc fm_no <| fc fm_no <| fc (fm_push _ _) <| fc fm_no <| fc (fm_iload _ _) <| fc fm_no <| fc (fm_bin _) <| fc (fm_iload _ _) <| fc fm_iast <| fc (fm_aload _ _) <| fc (fm_getR _ _) <| fc fm_no <| fc fm_no <| fc (fm_push _ _) <| fc fm_dup2 <| fc fm_iald <| fc (fm_push _ _) <| fc (fm_bin _) <| fc fm_iast <| fc fm_vret <| fc_0
-- 76: SecondOboeModel.sits(I)V
def k76 : List Step := [s_push 0 1, s_istore 2 1, s_push 0 1, s_istore 3 1, s_iload 3 1, s_aload 0 1, s_getR 5 3, s_no, s_no, s_push 2 1, s_iald, s_icge 43, s_no, s_no, s_iload 2 1, s_ifne 31, s_no, s_no, s_aload 0 1, s_getR 5 3, s_no, s_no, s_push 33 2, s_no, s_iload 3 1, s_bin iAd, s_iald, s_iload 1 1, s_icne 35, s_no, s_no, s_push 1 1, s_goto 36, s_no, s_no, s_push 0 1, s_istore 2 1, s_iinc 3 1, s_no, s_no, s_goto 4, s_no, s_no, s_iload 2 1, s_ifne 72, s_no, s_no, s_aload 0 1, s_getR 5 3, s_no, s_no, s_push 33 2, s_no, s_aload 0 1, s_getR 5 3, s_no, s_no, s_push 2 1, s_iald, s_bin iAd, s_iload 1 1, s_iast, s_aload 0 1, s_getR 5 3, s_no, s_no, s_push 2 1, s_dup2, s_iald, s_push 1 1, s_bin iAd, s_iast, s_vret]
set_option maxRecDepth 100000 in
theorem f76 : ∀ s ∈ k76, Form s := fc (fm_push _ _) <| fc (fm_istore _ _) <| fc (fm_push _ _) <| fc (fm_istore _ _) <| fc (fm_iload _ _) <| fc (fm_aload _ _) <| fc (fm_getR _ _) <| fc fm_no <| fc fm_no <| fc (fm_push _ _) <| fc fm_iald <| fc (fm_icge _) <| fc fm_no <| fc fm_no <| fc (fm_iload _ _) <| fc (fm_ifne _) <| fc fm_no <| fc fm_no <| fc (fm_aload _ _) <| fc (fm_getR _ _) <| fc fm_no <| fc fm_no <| fc (fm_push _ _) <| fc fm_no <| fc (fm_iload _ _) <| fc (fm_bin _) <| fc fm_iald <| fc (fm_iload _ _) <| fc (fm_icne _) <| fc fm_no <| fc fm_no <| fc (fm_push _ _) <| fc (fm_goto _) <| fc fm_no <| fc fm_no <| fc (fm_push _ _) <| fc (fm_istore _ _) <| fc (fm_iinc _ _) <| fc fm_no <| fc fm_no <| fc (fm_goto _) <| fc fm_no <| fc fm_no <| fc (fm_iload _ _) <| fc (fm_ifne _) <| fc fm_no <| fc fm_no <| fc (fm_aload _ _) <| fc (fm_getR _ _) <| fc fm_no <| fc fm_no <| fc (fm_push _ _) <| fc fm_no <| fc (fm_aload _ _) <| fc (fm_getR _ _) <| fc fm_no <| fc fm_no <| fc (fm_push _ _) <| fc fm_iald <| fc (fm_bin _) <| fc (fm_iload _ _) <| fc fm_iast <| fc (fm_aload _ _) <| fc (fm_getR _ _) <| fc fm_no <| fc fm_no <| fc (fm_push _ _) <| fc fm_dup2 <| fc fm_iald <| fc (fm_push _ _) <| fc (fm_bin _) <| fc fm_iast <| fc fm_vret <| fc_0
-- 77: SecondOboeModel.lays()V
def k77 : List Step := [s_push 0 1, s_istore 1 1, s_iload 1 1, s_aload 0 1, s_getR 5 3, s_no, s_no, s_push 0 1, s_iald, s_icge 23, s_no, s_no, s_aload 0 1, s_iload 1 1, s_call 5 1 (s_scallV 76 2), s_no, s_no, s_iinc 1 1, s_no, s_no, s_goto 2, s_no, s_no, s_push 0 1, s_istore 1 1, s_iload 1 1, s_push 40 2, s_no, s_icge 49, s_no, s_no, s_aload 0 1, s_getR 5 2, s_no, s_no, s_iload 1 1, s_aload 0 1, s_getR 5 3, s_no, s_no, s_iload 1 1, s_iald, s_iast, s_iinc 1 1, s_no, s_no, s_goto 25, s_no, s_no, s_push 0 1, s_istore 1 1, s_iload 1 1, s_push 7 2, s_no, s_icge 78, s_no, s_no, s_aload 0 1, s_getR 5 4, s_no, s_no, s_iload 1 1, s_aload 0 1, s_getR 5 2, s_no, s_no, s_push 33 2, s_no, s_iload 1 1, s_bin iAd, s_iald, s_iast, s_iinc 1 1, s_no, s_no, s_goto 51, s_no, s_no, s_aload 0 1, s_getR 5 4, s_no, s_no, s_push 7 2, s_no, s_push 0 1, s_iast, s_aload 0 1, s_push 0 1, s_putI 5 6, s_no, s_no, s_aload 0 1, s_push 0 1, s_putI 5 8, s_no, s_no, s_aload 0 1, s_push 0 1, s_putI 5 10, s_no, s_no, s_vret]
set_option maxRecDepth 100000 in
theorem f77 : ∀ s ∈ k77, Form s := fc (fm_push _ _) <| fc (fm_istore _ _) <| fc (fm_iload _ _) <| fc (fm_aload _ _) <| fc (fm_getR _ _) <| fc fm_no <| fc fm_no <| fc (fm_push _ _) <| fc fm_iald <| fc (fm_icge _) <| fc fm_no <| fc fm_no <| fc (fm_aload _ _) <| fc (fm_iload _ _) <| fc (fm_call _ _ _ (fm_scallV _ _)) <| fc fm_no <| fc fm_no <| fc (fm_iinc _ _) <| fc fm_no <| fc fm_no <| fc (fm_goto _) <| fc fm_no <| fc fm_no <| fc (fm_push _ _) <| fc (fm_istore _ _) <| fc (fm_iload _ _) <| fc (fm_push _ _) <| fc fm_no <| fc (fm_icge _) <| fc fm_no <| fc fm_no <| fc (fm_aload _ _) <| fc (fm_getR _ _) <| fc fm_no <| fc fm_no <| fc (fm_iload _ _) <| fc (fm_aload _ _) <| fc (fm_getR _ _) <| fc fm_no <| fc fm_no <| fc (fm_iload _ _) <| fc fm_iald <| fc fm_iast <| fc (fm_iinc _ _) <| fc fm_no <| fc fm_no <| fc (fm_goto _) <| fc fm_no <| fc fm_no <| fc (fm_push _ _) <| fc (fm_istore _ _) <| fc (fm_iload _ _) <| fc (fm_push _ _) <| fc fm_no <| fc (fm_icge _) <| fc fm_no <| fc fm_no <| fc (fm_aload _ _) <| fc (fm_getR _ _) <| fc fm_no <| fc fm_no <| fc (fm_iload _ _) <| fc (fm_aload _ _) <| fc (fm_getR _ _) <| fc fm_no <| fc fm_no <| fc (fm_push _ _) <| fc fm_no <| fc (fm_iload _ _) <| fc (fm_bin _) <| fc fm_iald <| fc fm_iast <| fc (fm_iinc _ _) <| fc fm_no <| fc fm_no <| fc (fm_goto _) <| fc fm_no <| fc fm_no <| fc (fm_aload _ _) <| fc (fm_getR _ _) <| fc fm_no <| fc fm_no <| fc (fm_push _ _) <| fc fm_no <| fc (fm_push _ _) <| fc fm_iast <| fc (fm_aload _ _) <| fc (fm_push _ _) <| fc (fm_putI _ _ (by decide)) <| fc fm_no <| fc fm_no <| fc (fm_aload _ _) <| fc (fm_push _ _) <| fc (fm_putI _ _ (by decide)) <| fc fm_no <| fc fm_no <| fc (fm_aload _ _) <| fc (fm_push _ _) <| fc (fm_putI _ _ (by decide)) <| fc fm_no <| fc fm_no <| fc fm_vret <| fc_0
-- 78: SecondOboeModel.<init>()V
def k78 : List Step := [s_no, s_no, s_no, s_no, s_no, s_no, s_no, s_no, s_no, s_no, s_no, s_no, s_no, s_no, s_no, s_no, s_no, s_no, s_no, s_no, s_no, s_no, s_no, s_no, s_no, s_no, s_no, s_no, s_no, s_no, s_no, s_no, s_no, s_no, s_no, s_no, s_no, s_no, s_no, s_no, s_no, s_no, s_no, s_no, s_no, s_no, s_no, s_no, s_no, s_no, s_no, s_no, s_no, s_no, s_no, s_no, s_no, s_no, s_no, s_no, s_no, s_no, s_no, s_no, s_no, s_no, s_no, s_no, s_no, s_no, s_no, s_no, s_no, s_no, s_no, s_no, s_no, s_no, s_no, s_no, s_no, s_no, s_no, s_no, s_no, s_no, s_no, s_no, s_no, s_no, s_no, s_no, s_no, s_no, s_no, s_no, s_no, s_no, s_no, s_no, s_no, s_aload 0 1, s_call 5 0 (s_scallV 74 1), s_no, s_no, s_aload 0 1, s_push 0 1, s_push 0 1, s_push 2 1, s_call 5 3 (s_scallV 75 4), s_no, s_no, s_aload 0 1, s_push 1 1, s_push 2 1, s_push 5 1, s_call 5 3 (s_scallV 75 4), s_no, s_no, s_aload 0 1, s_push 2 1, s_push 0 1, s_push 3 1, s_call 5 3 (s_scallV 75 4), s_no, s_no, s_aload 0 1, s_push 3 1, s_push 3 1, s_push 4 1, s_call 5 3 (s_scallV 75 4), s_no, s_no, s_aload 0 1, s_push 1 1, s_push 0 1, s_push 6 2, s_no, s_call 5 3 (s_scallV 75 4), s_no, s_no, s_aload 0 1, s_getR 5 3, s_no, s_no, s_push 25 2, s_no, s_push 31 2, s_no, s_iast, s_aload 0 1, s_getR 5 3, s_no, s_no, s_push 26 2, s_no, s_push 21 2, s_no, s_iast, s_aload 0 1, s_getR 5 3, s_no, s_no, s_push 27 2, s_no, s_push 14 2, s_no, s_iast, s_aload 0 1, s_getR 5 3, s_no, s_no, s_push 28 2, s_no, s_push 27 2, s_no, s_iast, s_aload 0 1, s_getR 5 3, s_no, s_no, s_push 1 1, s_push 4 1, s_iast, s_aload 0 1, s_push 2 1, s_call 5 1 (s_scallV 76 2), s_no, s_no, s_aload 0 1, s_push 0 1, s_call 5 1 (s_scallV 76 2), s_no, s_no, s_aload 0 1, s_getR 5 3, s_no, s_no, s_push 3 1, s_push 4 1, s_iast, s_aload 0 1, s_call 5 0 (s_scallV 77 1), s_no, s_no, s_vret]
set_option maxRecDepth 100000 in
theorem f78 : ∀ s ∈ k78, Form s := fc fm_no <| fc fm_no <| fc fm_no <| fc fm_no <| fc fm_no <| fc fm_no <| fc fm_no <| fc fm_no <| fc fm_no <| fc fm_no <| fc fm_no <| fc fm_no <| fc fm_no <| fc fm_no <| fc fm_no <| fc fm_no <| fc fm_no <| fc fm_no <| fc fm_no <| fc fm_no <| fc fm_no <| fc fm_no <| fc fm_no <| fc fm_no <| fc fm_no <| fc fm_no <| fc fm_no <| fc fm_no <| fc fm_no <| fc fm_no <| fc fm_no <| fc fm_no <| fc fm_no <| fc fm_no <| fc fm_no <| fc fm_no <| fc fm_no <| fc fm_no <| fc fm_no <| fc fm_no <| fc fm_no <| fc fm_no <| fc fm_no <| fc fm_no <| fc fm_no <| fc fm_no <| fc fm_no <| fc fm_no <| fc fm_no <| fc fm_no <| fc fm_no <| fc fm_no <| fc fm_no <| fc fm_no <| fc fm_no <| fc fm_no <| fc fm_no <| fc fm_no <| fc fm_no <| fc fm_no <| fc fm_no <| fc fm_no <| fc fm_no <| fc fm_no <| fc fm_no <| fc fm_no <| fc fm_no <| fc fm_no <| fc fm_no <| fc fm_no <| fc fm_no <| fc fm_no <| fc fm_no <| fc fm_no <| fc fm_no <| fc fm_no <| fc fm_no <| fc fm_no <| fc fm_no <| fc fm_no <| fc fm_no <| fc fm_no <| fc fm_no <| fc fm_no <| fc fm_no <| fc fm_no <| fc fm_no <| fc fm_no <| fc fm_no <| fc fm_no <| fc fm_no <| fc fm_no <| fc fm_no <| fc fm_no <| fc fm_no <| fc fm_no <| fc fm_no <| fc fm_no <| fc fm_no <| fc fm_no <| fc fm_no <| fc (fm_aload _ _) <| fc (fm_call _ _ _ (fm_scallV _ _)) <| fc fm_no <| fc fm_no <| fc (fm_aload _ _) <| fc (fm_push _ _) <| fc (fm_push _ _) <| fc (fm_push _ _) <| fc (fm_call _ _ _ (fm_scallV _ _)) <| fc fm_no <| fc fm_no <| fc (fm_aload _ _) <| fc (fm_push _ _) <| fc (fm_push _ _) <| fc (fm_push _ _) <| fc (fm_call _ _ _ (fm_scallV _ _)) <| fc fm_no <| fc fm_no <| fc (fm_aload _ _) <| fc (fm_push _ _) <| fc (fm_push _ _) <| fc (fm_push _ _) <| fc (fm_call _ _ _ (fm_scallV _ _)) <| fc fm_no <| fc fm_no <| fc (fm_aload _ _) <| fc (fm_push _ _) <| fc (fm_push _ _) <| fc (fm_push _ _) <| fc (fm_call _ _ _ (fm_scallV _ _)) <| fc fm_no <| fc fm_no <| fc (fm_aload _ _) <| fc (fm_push _ _) <| fc (fm_push _ _) <| fc (fm_push _ _) <| fc fm_no <| fc (fm_call _ _ _ (fm_scallV _ _)) <| fc fm_no <| fc fm_no <| fc (fm_aload _ _) <| fc (fm_getR _ _) <| fc fm_no <| fc fm_no <| fc (fm_push _ _) <| fc fm_no <| fc (fm_push _ _) <| fc fm_no <| fc fm_iast <| fc (fm_aload _ _) <| fc (fm_getR _ _) <| fc fm_no <| fc fm_no <| fc (fm_push _ _) <| fc fm_no <| fc (fm_push _ _) <| fc fm_no <| fc fm_iast <| fc (fm_aload _ _) <| fc (fm_getR _ _) <| fc fm_no <| fc fm_no <| fc (fm_push _ _) <| fc fm_no <| fc (fm_push _ _) <| fc fm_no <| fc fm_iast <| fc (fm_aload _ _) <| fc (fm_getR _ _) <| fc fm_no <| fc fm_no <| fc (fm_push _ _) <| fc fm_no <| fc (fm_push _ _) <| fc fm_no <| fc fm_iast <| fc (fm_aload _ _) <| fc (fm_getR _ _) <| fc fm_no <| fc fm_no <| fc (fm_push _ _) <| fc (fm_push _ _) <| fc fm_iast <| fc (fm_aload _ _) <| fc (fm_push _ _) <| fc (fm_call _ _ _ (fm_scallV _ _)) <| fc fm_no <| fc fm_no <| fc (fm_aload _ _) <| fc (fm_push _ _) <| fc (fm_call _ _ _ (fm_scallV _ _)) <| fc fm_no <| fc fm_no <| fc (fm_aload _ _) <| fc (fm_getR _ _) <| fc fm_no <| fc fm_no <| fc (fm_push _ _) <| fc (fm_push _ _) <| fc fm_iast <| fc (fm_aload _ _) <| fc (fm_call _ _ _ (fm_scallV _ _)) <| fc fm_no <| fc fm_no <| fc fm_vret <| fc_0
-- 79: SecondOboeModel.in(III)Z
def k79 : List Step := [s_iload 0 1, s_iload 1 1, s_iclt 14, s_no, s_no, s_iload 0 1, s_iload 2 1, s_icgt 14, s_no, s_no, s_push 1 1, s_goto 15, s_no, s_no, s_push 0 1, s_zret]
set_option maxRecDepth 100000 in
theorem f79 : ∀ s ∈ k79, Form s := fc (fm_iload _ _) <| fc (fm_iload _ _) <| fc (fm_iclt _) <| fc fm_no <| fc fm_no <| fc (fm_iload _ _) <| fc (fm_iload _ _) <| fc (fm_icgt _) <| fc fm_no <| fc fm_no <| fc (fm_push _ _) <| fc (fm_goto _) <| fc fm_no <| fc fm_no <| fc (fm_push _ _) <| fc fm_zret <| fc_0
-- 80: SecondOboeModel.isOne(I)Z
def k80 : List Step := [s_iload 1 1, s_push 0 1, s_aload 0 1, s_getR 5 2, s_no, s_no, s_push 0 1, s_iald, s_push 1 1, s_bin iSu, s_scallI 79 3, s_no, s_no, s_zret]
set_option maxRecDepth 100000 in
theorem f80 : ∀ s ∈ k80, Form s := fc (fm_iload _ _) <| fc (fm_push _ _) <| fc (fm_aload _ _) <| fc (fm_getR _ _) <| fc fm_no <| fc fm_no <| fc (fm_push _ _) <| fc fm_iald <| fc (fm_push _ _) <| fc (fm_bin _) <| fc (fm_scallI _ _) <| fc fm_no <| fc fm_no <| fc fm_zret <| fc_0
-- 81: SecondOboeModel.isBar(I)Z
def k81 : List Step := [s_iload 1 1, s_push 0 1, s_aload 0 1, s_getR 5 2, s_no, s_no, s_push 1 1, s_iald, s_push 1 1, s_bin iSu, s_scallI 79 3, s_no, s_no, s_zret]
set_option maxRecDepth 100000 in
theorem f81 : ∀ s ∈ k81, Form s := fc (fm_iload _ _) <| fc (fm_push _ _) <| fc (fm_aload _ _) <| fc (fm_getR _ _) <| fc fm_no <| fc fm_no <| fc (fm_push _ _) <| fc fm_iald <| fc (fm_push _ _) <| fc (fm_bin _) <| fc (fm_scallI _ _) <| fc fm_no <| fc fm_no <| fc fm_zret <| fc_0
-- 82: SecondOboeModel.ones(I)I
def k82 : List Step := [s_push 0 1, s_istore 1 1, s_push 0 1, s_istore 2 1, s_iload 2 1, s_push 8 2, s_no, s_icge 24, s_no, s_no, s_iload 1 1, s_iload 0 1, s_iload 2 1, s_bin bsr, s_push 1 1, s_bin ban, s_bin iAd, s_istore 1 1, s_iinc 2 1, s_no, s_no, s_goto 4, s_no, s_no, s_iload 1 1, s_iret]
set_option maxRecDepth 100000 in
theorem f82 : ∀ s ∈ k82, Form s := fc (fm_push _ _) <| fc (fm_istore _ _) <| fc (fm_push _ _) <| fc (fm_istore _ _) <| fc (fm_iload _ _) <| fc (fm_push _ _) <| fc fm_no <| fc (fm_icge _) <| fc fm_no <| fc fm_no <| fc (fm_iload _ _) <| fc (fm_iload _ _) <| fc (fm_iload _ _) <| fc (fm_bin _) <| fc (fm_push _ _) <| fc (fm_bin _) <| fc (fm_bin _) <| fc (fm_istore _ _) <| fc (fm_iinc _ _) <| fc fm_no <| fc fm_no <| fc (fm_goto _) <| fc fm_no <| fc fm_no <| fc (fm_iload _ _) <| fc fm_iret <| fc_0
-- 83: SecondOboeModel.write(I)I
def k83 : List Step := [s_iload 1 1, s_push 32 2, s_no, s_push 126 2, s_no, s_scallI 79 3, s_no, s_no, s_ifne 13, s_no, s_no, s_push (-1) 1, s_iret, s_aload 0 1, s_getI 5 1, s_no, s_no, s_push 200 3, s_no, s_no, s_icne 26, s_no, s_no, s_push (-3) 2, s_no, s_iret, s_aload 0 1, s_getR 5 0, s_no, s_no, s_aload 0 1, s_getI 5 1, s_no, s_no, s_iload 1 1, s_iast, s_aload 0 1, s_dup, s_getI 5 1, s_no, s_no, s_push 1 1, s_bin iAd, s_putI 5 1, s_no, s_no, s_aload 0 1, s_getI 5 1, s_no, s_no, s_iret]
set_option maxRecDepth 100000 in
theorem f83 : ∀ s ∈ k83, Form s := fc (fm_iload _ _) <| fc (fm_push _ _) <| fc fm_no <| fc (fm_push _ _) <| fc fm_no <| fc (fm_scallI _ _) <| fc fm_no <| fc fm_no <| fc (fm_ifne _) <| fc fm_no <| fc fm_no <| fc (fm_push _ _) <| fc fm_iret <| fc (fm_aload _ _) <| fc (fm_getI _ _) <| fc fm_no <| fc fm_no <| fc (fm_push _ _) <| fc fm_no <| fc fm_no <| fc (fm_icne _) <| fc fm_no <| fc fm_no <| fc (fm_push _ _) <| fc fm_no <| fc fm_iret <| fc (fm_aload _ _) <| fc (fm_getR _ _) <| fc fm_no <| fc fm_no <| fc (fm_aload _ _) <| fc (fm_getI _ _) <| fc fm_no <| fc fm_no <| fc (fm_iload _ _) <| fc fm_iast <| fc (fm_aload _ _) <| fc fm_dup <| fc (fm_getI _ _) <| fc fm_no <| fc fm_no <| fc (fm_push _ _) <| fc (fm_bin _) <| fc (fm_putI _ _ (by decide)) <| fc fm_no <| fc fm_no <| fc (fm_aload _ _) <| fc (fm_getI _ _) <| fc fm_no <| fc fm_no <| fc fm_iret <| fc_0
-- 84: SecondOboeModel.wipe()I
def k84 : List Step := [s_aload 0 1, s_getI 5 1, s_no, s_no, s_istore 1 1, s_aload 0 1, s_push 0 1, s_putI 5 1, s_no, s_no, s_iload 1 1, s_iret]
set_option maxRecDepth 100000 in
theorem f84 : ∀ s ∈ k84, Form s := fc (fm_aload _ _) <| fc (fm_getI _ _) <| fc fm_no <| fc fm_no <| fc (fm_istore _ _) <| fc (fm_aload _ _) <| fc (fm_push _ _) <| fc (fm_putI _ _ (by decide)) <| fc fm_no <| fc fm_no <| fc (fm_iload _ _) <| fc fm_iret <| fc_0
-- 85: SecondOboeModel.letterAt(I)I
def k85 : List Step := [s_iload 1 1, s_aload 0 1, s_getI 5 1, s_no, s_no, s_icge 17, s_no, s_no, s_aload 0 1, s_getR 5 0, s_no, s_no, s_iload 1 1, s_iald, s_goto 18, s_no, s_no, s_push (-1) 1, s_iret]
set_option maxRecDepth 100000 in
theorem f85 : ∀ s ∈ k85, Form s := fc (fm_iload _ _) <| fc (fm_aload _ _) <| fc (fm_getI _ _) <| fc fm_no <| fc fm_no <| fc (fm_icge _) <| fc fm_no <| fc fm_no <| fc (fm_aload _ _) <| fc (fm_getR _ _) <| fc fm_no <| fc fm_no <| fc (fm_iload _ _) <| fc fm_iald <| fc (fm_goto _) <| fc fm_no <| fc fm_no <| fc (fm_push _ _) <| fc fm_iret <| fc_0
-- 86: SecondOboeModel.isFigure(I)Z
def k86 : List Step := [s_iload 0 1, s_push 48 2, s_no, s_push 57 2, s_no, s_scallI 79 3, s_no, s_no, s_zret]
set_option maxRecDepth 100000 in
theorem f86 : ∀ s ∈ k86, Form s := fc (fm_iload _ _) <| fc (fm_push _ _) <| fc fm_no <| fc (fm_push _ _) <| fc fm_no <| fc (fm_scallI _ _) <| fc fm_no <| fc fm_no <| fc fm_zret <| fc_0
-- 87: SecondOboeModel.number(II)I
def k87 : List Step := [s_aload 0 1, s_aload 0 1, s_getI 5 11, s_no, s_no, s_call 5 1 (s_scallI 85 2), s_no, s_no, s_scallI 86 1, s_no, s_no, s_ifne 16, s_no, s_no, s_push (-1) 1, s_iret, s_aload 0 1, s_aload 0 1, s_getI 5 11, s_no, s_no, s_call 5 1 (s_scallI 85 2), s_no, s_no, s_push 48 2, s_no, s_bin iSu, s_istore 3 1, s_aload 0 1, s_dup, s_getI 5 11, s_no, s_no, s_push 1 1, s_bin iAd, s_putI 5 11, s_no, s_no, s_aload 0 1, s_aload 0 1, s_getI 5 11, s_no, s_no, s_call 5 1 (s_scallI 85 2), s_no, s_no, s_scallI 86 1, s_no, s_no, s_ifeq 79, s_no, s_no, s_push 10 2, s_no, s_iload 3 1, s_bin iMu, s_aload 0 1, s_aload 0 1, s_getI 5 11, s_no, s_no, s_call 5 1 (s_scallI 85 2), s_no, s_no, s_bin iAd, s_push 48 2, s_no, s_bin iSu, s_istore 3 1, s_aload 0 1, s_dup, s_getI 5 11, s_no, s_no, s_push 1 1, s_bin iAd, s_putI 5 11, s_no, s_no, s_aload 0 1, s_aload 0 1, s_getI 5 11, s_no, s_no, s_call 5 1 (s_scallI 85 2), s_no, s_no, s_iload 2 1, s_icne 100, s_no, s_no, s_iload 3 1, s_iload 1 1, s_icgt 100, s_no, s_no, s_push 1 1, s_goto 101, s_no, s_no, s_push 0 1, s_istore 4 2, s_no, s_aload 0 1, s_dup, s_getI 5 11, s_no, s_no, s_push 1 1, s_bin iAd, s_putI 5 11, s_no, s_no, s_iload 4 2, s_no, s_ifeq 122, s_no, s_no, s_iload 3 1, s_goto 123, s_no, s_no, s_push (-1) 1, s_iret]
set_option maxRecDepth 100000 in
theorem f87 : ∀ s ∈ k87, Form s := fc (fm_aload _ _) <| fc (fm_aload _ _) <| fc (fm_getI _ _) <| fc fm_no <| fc fm_no <| fc (fm_call _ _ _ (fm_scallI _ _)) <| fc fm_no <| fc fm_no <| fc (fm_scallI _ _) <| fc fm_no <| fc fm_no <| fc (fm_ifne _) <| fc fm_no <| fc fm_no <| fc (fm_push _ _) <| fc fm_iret <| fc (fm_aload _ _) <| fc (fm_aload _ _) <| fc (fm_getI _ _) <| fc fm_no <| fc fm_no <| fc (fm_call _ _ _ (fm_scallI _ _)) <| fc fm_no <| fc fm_no <| fc (fm_push _ _) <| fc fm_no <| fc (fm_bin _) <| fc (fm_istore _ _) <| fc (fm_aload _ _) <| fc fm_dup <| fc (fm_getI _ _) <| fc fm_no <| fc fm_no <| fc (fm_push _ _) <| fc (fm_bin _) <| fc (fm_putI _ _ (by decide)) <| fc fm_no <| fc fm_no <| fc (fm_aload _ _) <| fc (fm_aload _ _) <| fc (fm_getI _ _) <| fc fm_no <| fc fm_no <| fc (fm_call _ _ _ (fm_scallI _ _)) <| fc fm_no <| fc fm_no <| fc (fm_scallI _ _) <| fc fm_no <| fc fm_no <| fc (fm_ifeq _) <| fc fm_no <| fc fm_no <| fc (fm_push _ _) <| fc fm_no <| fc (fm_iload _ _) <| fc (fm_bin _) <| fc (fm_aload _ _) <| fc (fm_aload _ _) <| fc (fm_getI _ _) <| fc fm_no <| fc fm_no <| fc (fm_call _ _ _ (fm_scallI _ _)) <| fc fm_no <| fc fm_no <| fc (fm_bin _) <| fc (fm_push _ _) <| fc fm_no <| fc (fm_bin _) <| fc (fm_istore _ _) <| fc (fm_aload _ _) <| fc fm_dup <| fc (fm_getI _ _) <| fc fm_no <| fc fm_no <| fc (fm_push _ _) <| fc (fm_bin _) <| fc (fm_putI _ _ (by decide)) <| fc fm_no <| fc fm_no <| fc (fm_aload _ _) <| fc (fm_aload _ _) <| fc (fm_getI _ _) <| fc fm_no <| fc fm_no <| fc (fm_call _ _ _ (fm_scallI _ _)) <| fc fm_no <| fc fm_no <| fc (fm_iload _ _) <| fc (fm_icne _) <| fc fm_no <| fc fm_no <| fc (fm_iload _ _) <| fc (fm_iload _ _) <| fc (fm_icgt _) <| fc fm_no <| fc fm_no <| fc (fm_push _ _) <| fc (fm_goto _) <| fc fm_no <| fc fm_no <| fc (fm_push _ _) <| fc (fm_istore _ _) <| fc fm_no <| fc (fm_aload _ _) <| fc fm_dup <| fc (fm_getI _ _) <| fc fm_no <| fc fm_no <| fc (fm_push _ _) <| fc (fm_bin _) <| fc (fm_putI _ _ (by decide)) <| fc fm_no <| fc fm_no <| fc (fm_iload _ _) <| fc fm_no <| fc (fm_ifeq _) <| fc fm_no <| fc fm_no <| fc (fm_iload _ _) <| fc (fm_goto _) <| fc fm_no <| fc fm_no <| fc (fm_push _ _) <| fc fm_iret <| fc_0
-- 88: SecondOboeModel.readsItem(I)Z
def k88 : List Step := [s_iload 1 1, s_switch [(98, 115), (103, 218), (105, 44), (115, 190)] 246, s_no, s_no, s_no, s_no, s_no, s_no, s_no, s_no, s_no, s_no, s_no, s_no, s_no, s_no, s_no, s_no, s_no, s_no, s_no, s_no, s_no, s_no, s_no, s_no, s_no, s_no, s_no, s_no, s_no, s_no, s_no, s_no, s_no, s_no, s_no, s_no, s_no, s_no, s_no, s_no, s_no, s_no, s_aload 0 1, s_push 3 1, s_push 44 2, s_no, s_call 5 2 (s_scallI 87 3), s_no, s_no, s_istore 2 1, s_iload 2 1, s_ifge 60, s_no, s_no, s_push (-1) 1, s_goto 68, s_no, s_no, s_aload 0 1, s_push 6 2, s_no, s_push 44 2, s_no, s_call 5 2 (s_scallI 87 3), s_no, s_no, s_istore 3 1, s_iload 3 1, s_ifge 77, s_no, s_no, s_push (-1) 1, s_goto 85, s_no, s_no, s_aload 0 1, s_push 30 2, s_no, s_push 59 2, s_no, s_call 5 2 (s_scallI 87 3), s_no, s_no, s_istore 4 2, s_no, s_iload 4 2, s_no, s_iflt 103, s_no, s_no, s_aload 0 1, s_getR 5 3, s_no, s_no, s_push 0 1, s_iald, s_push 7 2, s_no, s_icne 105, s_no, s_no, s_push 0 1, s_zret, s_aload 0 1, s_iload 2 1, s_iload 3 1, s_iload 4 2, s_no, s_call 5 3 (s_scallV 75 4), s_no, s_no, s_push 1 1, s_zret, s_aload 0 1, s_push 15 2, s_no, s_push 44 2, s_no, s_call 5 2 (s_scallI 87 3), s_no, s_no, s_istore 2 1, s_iload 2 1, s_ifge 132, s_no, s_no, s_push (-1) 1, s_goto 140, s_no, s_no, s_aload 0 1, s_push 7 2, s_no, s_push 59 2, s_no, s_call 5 2 (s_scallI 87 3), s_no, s_no, s_istore 3 1, s_iload 3 1, s_iflt 156, s_no, s_no, s_aload 0 1, s_getR 5 3, s_no, s_no, s_push 1 1, s_iald, s_push 8 2, s_no, s_icne 158, s_no, s_no, s_push 0 1, s_zret, s_aload 0 1, s_getR 5 3, s_no, s_no, s_push 25 2, s_no, s_aload 0 1, s_getR 5 3, s_no, s_no, s_push 1 1, s_iald, s_bin iAd, s_iload 2 1, s_push 16 2, s_no, s_iload 3 1, s_bin iMu, s_bin iAd, s_iast, s_aload 0 1, s_getR 5 3, s_no, s_no, s_push 1 1, s_dup2, s_iald, s_push 1 1, s_bin iAd, s_iast, s_push 1 1, s_zret, s_aload 0 1, s_aload 0 1, s_getR 5 3, s_no, s_no, s_push 0 1, s_iald, s_push 1 1, s_bin iSu, s_push 59 2, s_no, s_call 5 2 (s_scallI 87 3), s_no, s_no, s_istore 2 1, s_iload 2 1, s_ifge 211, s_no, s_no, s_push 0 1, s_zret, s_aload 0 1, s_iload 2 1, s_call 5 1 (s_scallV 76 2), s_no, s_no, s_push 1 1, s_zret, s_aload 0 1, s_push 5 1, s_push 59 2, s_no, s_call 5 2 (s_scallI 87 3), s_no, s_no, s_istore 2 1, s_iload 2 1, s_ifge 232, s_no, s_no, s_push 0 1, s_zret, s_aload 0 1, s_getR 5 3, s_no, s_no, s_push 3 1, s_dup2, s_iald, s_push 1 1, s_iload 2 1, s_bin bsl, s_bin bor, s_iast, s_push 1 1, s_zret, s_push 0 1, s_zret]
set_option maxRecDepth 100000 in
theorem f88 : ∀ s ∈ k88, Form s := fc (fm_iload _ _) <| fc (fm_switch _ _) <| fc fm_no <| fc fm_no <| fc fm_no <| fc fm_no <| fc fm_no <| fc fm_no <| fc fm_no <| fc fm_no <| fc fm_no <| fc fm_no <| fc fm_no <| fc fm_no <| fc fm_no <| fc fm_no <| fc fm_no <| fc fm_no <| fc fm_no <| fc fm_no <| fc fm_no <| fc fm_no <| fc fm_no <| fc fm_no <| fc fm_no <| fc fm_no <| fc fm_no <| fc fm_no <| fc fm_no <| fc fm_no <| fc fm_no <| fc fm_no <| fc fm_no <| fc fm_no <| fc fm_no <| fc fm_no <| fc fm_no <| fc fm_no <| fc fm_no <| fc fm_no <| fc fm_no <| fc fm_no <| fc fm_no <| fc fm_no <| fc (fm_aload _ _) <| fc (fm_push _ _) <| fc (fm_push _ _) <| fc fm_no <| fc (fm_call _ _ _ (fm_scallI _ _)) <| fc fm_no <| fc fm_no <| fc (fm_istore _ _) <| fc (fm_iload _ _) <| fc (fm_ifge _) <| fc fm_no <| fc fm_no <| fc (fm_push _ _) <| fc (fm_goto _) <| fc fm_no <| fc fm_no <| fc (fm_aload _ _) <| fc (fm_push _ _) <| fc fm_no <| fc (fm_push _ _) <| fc fm_no <| fc (fm_call _ _ _ (fm_scallI _ _)) <| fc fm_no <| fc fm_no <| fc (fm_istore _ _) <| fc (fm_iload _ _) <| fc (fm_ifge _) <| fc fm_no <| fc fm_no <| fc (fm_push _ _) <| fc (fm_goto _) <| fc fm_no <| fc fm_no <| fc (fm_aload _ _) <| fc (fm_push _ _) <| fc fm_no <| fc (fm_push _ _) <| fc fm_no <| fc (fm_call _ _ _ (fm_scallI _ _)) <| fc fm_no <| fc fm_no <| fc (fm_istore _ _) <| fc fm_no <| fc (fm_iload _ _) <| fc fm_no <| fc (fm_iflt _) <| fc fm_no <| fc fm_no <| fc (fm_aload _ _) <| fc (fm_getR _ _) <| fc fm_no <| fc fm_no <| fc (fm_push _ _) <| fc fm_iald <| fc (fm_push _ _) <| fc fm_no <| fc (fm_icne _) <| fc fm_no <| fc fm_no <| fc (fm_push _ _) <| fc fm_zret <| fc (fm_aload _ _) <| fc (fm_iload _ _) <| fc (fm_iload _ _) <| fc (fm_iload _ _) <| fc fm_no <| fc (fm_call _ _ _ (fm_scallV _ _)) <| fc fm_no <| fc fm_no <| fc (fm_push _ _) <| fc fm_zret <| fc (fm_aload _ _) <| fc (fm_push _ _) <| fc fm_no <| fc (fm_push _ _) <| fc fm_no <| fc (fm_call _ _ _ (fm_scallI _ _)) <| fc fm_no <| fc fm_no <| fc (fm_istore _ _) <| fc (fm_iload _ _) <| fc (fm_ifge _) <| fc fm_no <| fc fm_no <| fc (fm_push _ _) <| fc (fm_goto _) <| fc fm_no <| fc fm_no <| fc (fm_aload _ _) <| fc (fm_push _ _) <| fc fm_no <| fc (fm_push _ _) <| fc fm_no <| fc (fm_call _ _ _ (fm_scallI _ _)) <| fc fm_no <| fc fm_no <| fc (fm_istore _ _) <| fc (fm_iload _ _) <| fc (fm_iflt _) <| fc fm_no <| fc fm_no <| fc (fm_aload _ _) <| fc (fm_getR _ _) <| fc fm_no <| fc fm_no <| fc (fm_push _ _) <| fc fm_iald <| fc (fm_push _ _) <| fc fm_no <| fc (fm_icne _) <| fc fm_no <| fc fm_no <| fc (fm_push _ _) <| fc fm_zret <| fc (fm_aload _ _) <| fc (fm_getR _ _) <| fc fm_no <| fc fm_no <| fc (fm_push _ _) <| fc fm_no <| fc (fm_aload _ _) <| fc (fm_getR _ _) <| fc fm_no <| fc fm_no <| fc (fm_push _ _) <| fc fm_iald <| fc (fm_bin _) <| fc (fm_iload _ _) <| fc (fm_push _ _) <| fc fm_no <| fc (fm_iload _ _) <| fc (fm_bin _) <| fc (fm_bin _) <| fc fm_iast <| fc (fm_aload _ _) <| fc (fm_getR _ _) <| fc fm_no <| fc fm_no <| fc (fm_push _ _) <| fc fm_dup2 <| fc fm_iald <| fc (fm_push _ _) <| fc (fm_bin _) <| fc fm_iast <| fc (fm_push _ _) <| fc fm_zret <| fc (fm_aload _ _) <| fc (fm_aload _ _) <| fc (fm_getR _ _) <| fc fm_no <| fc fm_no <| fc (fm_push _ _) <| fc fm_iald <| fc (fm_push _ _) <| fc (fm_bin _) <| fc (fm_push _ _) <| fc fm_no <| fc (fm_call _ _ _ (fm_scallI _ _)) <| fc fm_no <| fc fm_no <| fc (fm_istore _ _) <| fc (fm_iload _ _) <| fc (fm_ifge _) <| fc fm_no <| fc fm_no <| fc (fm_push _ _) <| fc fm_zret <| fc (fm_aload _ _) <| fc (fm_iload _ _) <| fc (fm_call _ _ _ (fm_scallV _ _)) <| fc fm_no <| fc fm_no <| fc (fm_push _ _) <| fc fm_zret <| fc (fm_aload _ _) <| fc (fm_push _ _) <| fc (fm_push _ _) <| fc fm_no <| fc (fm_call _ _ _ (fm_scallI _ _)) <| fc fm_no <| fc fm_no <| fc (fm_istore _ _) <| fc (fm_iload _ _) <| fc (fm_ifge _) <| fc fm_no <| fc fm_no <| fc (fm_push _ _) <| fc fm_zret <| fc (fm_aload _ _) <| fc (fm_getR _ _) <| fc fm_no <| fc fm_no <| fc (fm_push _ _) <| fc fm_dup2 <| fc fm_iald <| fc (fm_push _ _) <| fc (fm_iload _ _) <| fc (fm_bin _) <| fc (fm_bin _) <| fc fm_iast <| fc (fm_push _ _) <| fc fm_zret <| fc (fm_push _ _) <| fc fm_zret <| fc_0
-- 89: SecondOboeModel.reads()I
def k89 : List Step := [s_aload 0 1, s_call 5 0 (s_scallV 74 1), s_no, s_no, s_aload 0 1, s_push 0 1, s_putI 5 11, s_no, s_no, s_aload 0 1, s_getI 5 11, s_no, s_no, s_aload 0 1, s_getI 5 1, s_no, s_no, s_icge 53, s_no, s_no, s_aload 0 1, s_getI 5 11, s_no, s_no, s_istore 1 1, s_aload 0 1, s_dup, s_getI 5 11, s_no, s_no, s_push 1 1, s_bin iAd, s_putI 5 11, s_no, s_no, s_aload 0 1, s_aload 0 1, s_getR 5 0, s_no, s_no, s_iload 1 1, s_iald, s_call 5 1 (s_scallI 88 2), s_no, s_no, s_ifne 50, s_no, s_no, s_iload 1 1, s_iret, s_goto 9, s_no, s_no, s_push (-4) 2, s_no, s_iret]
set_option maxRecDepth 100000 in
theorem f89 : ∀ s ∈ k89, Form s := fc (fm_aload _ _) <| fc (fm_call _ _ _ (fm_scallV _ _)) <| fc fm_no <| fc fm_no <| fc (fm_aload _ _) <| fc (fm_push _ _) <| fc (fm_putI _ _ (by decide)) <| fc fm_no <| fc fm_no <| fc (fm_aload _ _) <| fc (fm_getI _ _) <| fc fm_no <| fc fm_no <| fc (fm_aload _ _) <| fc (fm_getI _ _) <| fc fm_no <| fc fm_no <| fc (fm_icge _) <| fc fm_no <| fc fm_no <| fc (fm_aload _ _) <| fc (fm_getI _ _) <| fc fm_no <| fc fm_no <| fc (fm_istore _ _) <| fc (fm_aload _ _) <| fc fm_dup <| fc (fm_getI _ _) <| fc fm_no <| fc fm_no <| fc (fm_push _ _) <| fc (fm_bin _) <| fc (fm_putI _ _ (by decide)) <| fc fm_no <| fc fm_no <| fc (fm_aload _ _) <| fc (fm_aload _ _) <| fc (fm_getR _ _) <| fc fm_no <| fc fm_no <| fc (fm_iload _ _) <| fc fm_iald <| fc (fm_call _ _ _ (fm_scallI _ _)) <| fc fm_no <| fc fm_no <| fc (fm_ifne _) <| fc fm_no <| fc fm_no <| fc (fm_iload _ _) <| fc fm_iret <| fc (fm_goto _) <| fc fm_no <| fc fm_no <| fc (fm_push _ _) <| fc fm_no <| fc fm_iret <| fc_0
-- 90: SecondOboeModel.fault()I
def k90 : List Step := [s_aload 0 1, s_call 5 0 (s_scallI 89 1), s_no, s_no, s_iret]
set_option maxRecDepth 100000 in
theorem f90 : ∀ s ∈ k90, Form s := fc (fm_aload _ _) <| fc (fm_call _ _ _ (fm_scallI _ _)) <| fc fm_no <| fc fm_no <| fc fm_iret <| fc_0
-- 91: SecondOboeModel.lay()I
def k91 : List Step := [s_aload 0 1, s_call 5 0 (s_scallI 89 1), s_no, s_no, s_push (-4) 2, s_no, s_icne 22, s_no, s_no, s_aload 0 1, s_getR 5 3, s_no, s_no, s_push 0 1, s_iald, s_ifle 22, s_no, s_no, s_push 1 1, s_goto 23, s_no, s_no, s_push 0 1, s_istore 1 1, s_push 0 1, s_istore 2 1, s_iload 2 1, s_aload 0 1, s_getR 5 3, s_no, s_no, s_push 0 1, s_iald, s_icge 70, s_no, s_no, s_iload 1 1, s_ifeq 62, s_no, s_no, s_aload 0 1, s_getR 5 3, s_no, s_no, s_push 11 2, s_no, s_iload 2 1, s_bin iAd, s_iald, s_aload 0 1, s_getR 5 3, s_no, s_no, s_push 0 1, s_iald, s_icge 62, s_no, s_no, s_push 1 1, s_goto 63, s_no, s_no, s_push 0 1, s_istore 1 1, s_iinc 2 1, s_no, s_no, s_goto 26, s_no, s_no, s_push 0 1, s_istore 2 1, s_iload 2 1, s_aload 0 1, s_getR 5 3, s_no, s_no, s_push 1 1, s_iald, s_icge 118, s_no, s_no, s_iload 1 1, s_ifeq 110, s_no, s_no, s_aload 0 1, s_getR 5 3, s_no, s_no, s_push 25 2, s_no, s_iload 2 1, s_bin iAd, s_iald, s_push 1 1, s_aload 0 1, s_getR 5 3, s_no, s_no, s_push 0 1, s_iald, s_bin bsl, s_icge 110, s_no, s_no, s_push 1 1, s_goto 111, s_no, s_no, s_push 0 1, s_istore 1 1, s_iinc 2 1, s_no, s_no, s_goto 72, s_no, s_no, s_iload 1 1, s_ifne 125, s_no, s_no, s_push (-2) 2, s_no, s_iret, s_aload 0 1, s_call 5 0 (s_scallV 77 1), s_no, s_no, s_aload 0 1, s_getR 5 2, s_no, s_no, s_push 0 1, s_iald, s_iret]
set_option maxRecDepth 100000 in
theorem f91 : ∀ s ∈ k91, Form s := fc (fm_aload _ _) <| fc (fm_call _ _ _ (fm_scallI _ _)) <| fc fm_no <| fc fm_no <| fc (fm_push _ _) <| fc fm_no <| fc (fm_icne _) <| fc fm_no <| fc fm_no <| fc (fm_aload _ _) <| fc (fm_getR _ _) <| fc fm_no <| fc fm_no <| fc (fm_push _ _) <| fc fm_iald <| fc (fm_ifle _) <| fc fm_no <| fc fm_no <| fc (fm_push _ _) <| fc (fm_goto _) <| fc fm_no <| fc fm_no <| fc (fm_push _ _) <| fc (fm_istore _ _) <| fc (fm_push _ _) <| fc (fm_istore _ _) <| fc (fm_iload _ _) <| fc (fm_aload _ _) <| fc (fm_getR _ _) <| fc fm_no <| fc fm_no <| fc (fm_push _ _) <| fc fm_iald <| fc (fm_icge _) <| fc fm_no <| fc fm_no <| fc (fm_iload _ _) <| fc (fm_ifeq _) <| fc fm_no <| fc fm_no <| fc (fm_aload _ _) <| fc (fm_getR _ _) <| fc fm_no <| fc fm_no <| fc (fm_push _ _) <| fc fm_no <| fc (fm_iload _ _) <| fc (fm_bin _) <| fc fm_iald <| fc (fm_aload _ _) <| fc (fm_getR _ _) <| fc fm_no <| fc fm_no <| fc (fm_push _ _) <| fc fm_iald <| fc (fm_icge _) <| fc fm_no <| fc fm_no <| fc (fm_push _ _) <| fc (fm_goto _) <| fc fm_no <| fc fm_no <| fc (fm_push _ _) <| fc (fm_istore _ _) <| fc (fm_iinc _ _) <| fc fm_no <| fc fm_no <| fc (fm_goto _) <| fc fm_no <| fc fm_no <| fc (fm_push _ _) <| fc (fm_istore _ _) <| fc (fm_iload _ _) <| fc (fm_aload _ _) <| fc (fm_getR _ _) <| fc fm_no <| fc fm_no <| fc (fm_push _ _) <| fc fm_iald <| fc (fm_icge _) <| fc fm_no <| fc fm_no <| fc (fm_iload _ _) <| fc (fm_ifeq _) <| fc fm_no <| fc fm_no <| fc (fm_aload _ _) <| fc (fm_getR _ _) <| fc fm_no <| fc fm_no <| fc (fm_push _ _) <| fc fm_no <| fc (fm_iload _ _) <| fc (fm_bin _) <| fc fm_iald <| fc (fm_push _ _) <| fc (fm_aload _ _) <| fc (fm_getR _ _) <| fc fm_no <| fc fm_no <| fc (fm_push _ _) <| fc fm_iald <| fc (fm_bin _) <| fc (fm_icge _) <| fc fm_no <| fc fm_no <| fc (fm_push _ _) <| fc (fm_goto _) <| fc fm_no <| fc fm_no <| fc (fm_push _ _) <| fc (fm_istore _ _) <| fc (fm_iinc _ _) <| fc fm_no <| fc fm_no <| fc (fm_goto _) <| fc fm_no <| fc fm_no <| fc (fm_iload _ _) <| fc (fm_ifne _) <| fc fm_no <| fc fm_no <| fc (fm_push _ _) <| fc fm_no <| fc fm_iret <| fc (fm_aload _ _) <| fc (fm_call _ _ _ (fm_scallV _ _)) <| fc fm_no <| fc fm_no <| fc (fm_aload _ _) <| fc (fm_getR _ _) <| fc fm_no <| fc fm_no <| fc (fm_push _ _) <| fc fm_iald <| fc fm_iret <| fc_0
-- 92: SecondOboeModel.asItIs()V
def k92 : List Step := [s_push 0 1, s_istore 1 1, s_iload 1 1, s_push 7 2, s_no, s_icge 40, s_no, s_no, s_aload 0 1, s_getR 5 12, s_no, s_no, s_iload 1 1, s_aload 0 1, s_getR 5 4, s_no, s_no, s_iload 1 1, s_iald, s_iast, s_aload 0 1, s_getR 5 14, s_no, s_no, s_iload 1 1, s_aload 0 1, s_getR 5 2, s_no, s_no, s_push 4 1, s_iload 1 1, s_bin iAd, s_iald, s_iast, s_iinc 1 1, s_no, s_no, s_goto 2, s_no, s_no, s_aload 0 1, s_aload 0 1, s_getR 5 4, s_no, s_no, s_push 7 2, s_no, s_iald, s_putI 5 16, s_no, s_no, s_aload 0 1, s_aload 0 1, s_getR 5 2, s_no, s_no, s_push 3 1, s_iald, s_putI 5 17, s_no, s_no, s_aload 0 1, s_push 0 1, s_putI 5 18, s_no, s_no, s_vret]
set_option maxRecDepth 100000 in
theorem f92 : ∀ s ∈ k92, Form s := fc (fm_push _ _) <| fc (fm_istore _ _) <| fc (fm_iload _ _) <| fc (fm_push _ _) <| fc fm_no <| fc (fm_icge _) <| fc fm_no <| fc fm_no <| fc (fm_aload _ _) <| fc (fm_getR _ _) <| fc fm_no <| fc fm_no <| fc (fm_iload _ _) <| fc (fm_aload _ _) <| fc (fm_getR _ _) <| fc fm_no <| fc fm_no <| fc (fm_iload _ _) <| fc fm_iald <| fc fm_iast <| fc (fm_aload _ _) <| fc (fm_getR _ _) <| fc fm_no <| fc fm_no <| fc (fm_iload _ _) <| fc (fm_aload _ _) <| fc (fm_getR _ _) <| fc fm_no <| fc fm_no <| fc (fm_push _ _) <| fc (fm_iload _ _) <| fc (fm_bin _) <| fc fm_iald <| fc fm_iast <| fc (fm_iinc _ _) <| fc fm_no <| fc fm_no <| fc (fm_goto _) <| fc fm_no <| fc fm_no <| fc (fm_aload _ _) <| fc (fm_aload _ _) <| fc (fm_getR _ _) <| fc fm_no <| fc fm_no <| fc (fm_push _ _) <| fc fm_no <| fc fm_iald <| fc (fm_putI _ _ (by decide)) <| fc fm_no <| fc fm_no <| fc (fm_aload _ _) <| fc (fm_aload _ _) <| fc (fm_getR _ _) <| fc fm_no <| fc fm_no <| fc (fm_push _ _) <| fc fm_iald <| fc (fm_putI _ _ (by decide)) <| fc fm_no <| fc fm_no <| fc (fm_aload _ _) <| fc (fm_push _ _) <| fc (fm_putI _ _ (by decide)) <| fc fm_no <| fc fm_no <| fc fm_vret <| fc_0
-- 93: SecondOboeModel.wants(III)Z
def k93 : List Step := [s_aload 0 1, s_getI 5 16, s_no, s_no, s_iload 1 1, s_bin bsr, s_push 1 1, s_bin ban, s_push 1 1, s_iceq 21, s_no, s_no, s_aload 0 1, s_getR 5 14, s_no, s_no, s_iload 1 1, s_iald, s_ifne 23, s_no, s_no, s_push 1 1, s_zret, s_aload 0 1, s_getR 5 2, s_no, s_no, s_push 11 2, s_no, s_iload 1 1, s_bin iAd, s_iald, s_istore 4 2, s_no, s_aload 0 1, s_getR 5 14, s_no, s_no, s_iload 1 1, s_iald, s_push 1 1, s_icne 64, s_no, s_no, s_aload 0 1, s_getR 5 13, s_no, s_no, s_iload 1 1, s_iald, s_iload 4 2, s_no, s_bin bsr, s_push 1 1, s_bin ban, s_ifne 62, s_no, s_no, s_push 1 1, s_goto 63, s_no, s_no, s_push 0 1, s_zret, s_iload 2 1, s_ifeq 102, s_no, s_no, s_aload 0 1, s_getR 5 14, s_no, s_no, s_iload 1 1, s_iald, s_push 2 1, s_icne 91, s_no, s_no, s_iload 3 1, s_iload 4 2, s_no, s_bin bsr, s_push 1 1, s_bin ban, s_push 1 1, s_icne 106, s_no, s_no, s_goto 102, s_no, s_no, s_aload 0 1, s_getR 5 13, s_no, s_no, s_iload 1 1, s_iald, s_iload 3 1, s_bin ban, s_ifne 106, s_no, s_no, s_push 1 1, s_goto 107, s_no, s_no, s_push 0 1, s_zret]
set_option maxRecDepth 100000 in
theorem f93 : ∀ s ∈ k93, Form s := fc (fm_aload _ _) <| fc (fm_getI _ _) <| fc fm_no <| fc fm_no <| fc (fm_iload _ _) <| fc (fm_bin _) <| fc (fm_push _ _) <| fc (fm_bin _) <| fc (fm_push _ _) <| fc (fm_iceq _) <| fc fm_no <| fc fm_no <| fc (fm_aload _ _) <| fc (fm_getR _ _) <| fc fm_no <| fc fm_no <| fc (fm_iload _ _) <| fc fm_iald <| fc (fm_ifne _) <| fc fm_no <| fc fm_no <| fc (fm_push _ _) <| fc fm_zret <| fc (fm_aload _ _) <| fc (fm_getR _ _) <| fc fm_no <| fc fm_no <| fc (fm_push _ _) <| fc fm_no <| fc (fm_iload _ _) <| fc (fm_bin _) <| fc fm_iald <| fc (fm_istore _ _) <| fc fm_no <| fc (fm_aload _ _) <| fc (fm_getR _ _) <| fc fm_no <| fc fm_no <| fc (fm_iload _ _) <| fc fm_iald <| fc (fm_push _ _) <| fc (fm_icne _) <| fc fm_no <| fc fm_no <| fc (fm_aload _ _) <| fc (fm_getR _ _) <| fc fm_no <| fc fm_no <| fc (fm_iload _ _) <| fc fm_iald <| fc (fm_iload _ _) <| fc fm_no <| fc (fm_bin _) <| fc (fm_push _ _) <| fc (fm_bin _) <| fc (fm_ifne _) <| fc fm_no <| fc fm_no <| fc (fm_push _ _) <| fc (fm_goto _) <| fc fm_no <| fc fm_no <| fc (fm_push _ _) <| fc fm_zret <| fc (fm_iload _ _) <| fc (fm_ifeq _) <| fc fm_no <| fc fm_no <| fc (fm_aload _ _) <| fc (fm_getR _ _) <| fc fm_no <| fc fm_no <| fc (fm_iload _ _) <| fc fm_iald <| fc (fm_push _ _) <| fc (fm_icne _) <| fc fm_no <| fc fm_no <| fc (fm_iload _ _) <| fc (fm_iload _ _) <| fc fm_no <| fc (fm_bin _) <| fc (fm_push _ _) <| fc (fm_bin _) <| fc (fm_push _ _) <| fc (fm_icne _) <| fc fm_no <| fc fm_no <| fc (fm_goto _) <| fc fm_no <| fc fm_no <| fc (fm_aload _ _) <| fc (fm_getR _ _) <| fc fm_no <| fc fm_no <| fc (fm_iload _ _) <| fc fm_iald <| fc (fm_iload _ _) <| fc (fm_bin _) <| fc (fm_ifne _) <| fc fm_no <| fc fm_no <| fc (fm_push _ _) <| fc (fm_goto _) <| fc fm_no <| fc fm_no <| fc (fm_push _ _) <| fc fm_zret <| fc_0
-- 94: SecondOboeModel.askedIn(I)I
def k94 : List Step := [s_aload 0 1, s_getR 5 2, s_no, s_no, s_push 25 2, s_no, s_iload 1 1, s_bin iAd, s_iald, s_aload 0 1, s_getI 5 18, s_no, s_no, s_push (-1) 1, s_bin bxo, s_bin ban, s_iret]
set_option maxRecDepth 100000 in
theorem f94 : ∀ s ∈ k94, Form s := fc (fm_aload _ _) <| fc (fm_getR _ _) <| fc fm_no <| fc fm_no <| fc (fm_push _ _) <| fc fm_no <| fc (fm_iload _ _) <| fc (fm_bin _) <| fc fm_iald <| fc (fm_aload _ _) <| fc (fm_getI _ _) <| fc fm_no <| fc fm_no <| fc (fm_push _ _) <| fc (fm_bin _) <| fc (fm_bin _) <| fc fm_iret <| fc_0
-- 95: SecondOboeModel.goes()I
def k95 : List Step := [s_push 0 1, s_istore 1 1, s_iload 1 1, s_aload 0 1, s_getR 5 2, s_no, s_no, s_push 0 1, s_iald, s_icge 25, s_no, s_no, s_aload 0 1, s_getR 5 13, s_no, s_no, s_iload 1 1, s_push 0 1, s_iast, s_iinc 1 1, s_no, s_no, s_goto 2, s_no, s_no, s_push 0 1, s_istore 1 1, s_iload 1 1, s_push 1 1, s_bin iAd, s_aload 0 1, s_getR 5 2, s_no, s_no, s_push 0 1, s_iald, s_icge 104, s_no, s_no, s_aload 0 1, s_getI 5 17, s_no, s_no, s_iload 1 1, s_bin bsr, s_push 1 1, s_bin ban, s_ifne 98, s_no, s_no, s_aload 0 1, s_getR 5 13, s_no, s_no, s_aload 0 1, s_getR 5 12, s_no, s_no, s_iload 1 1, s_iald, s_dup2, s_iald, s_push 1 1, s_aload 0 1, s_getR 5 12, s_no, s_no, s_iload 1 1, s_push 1 1, s_bin iAd, s_iald, s_bin bsl, s_bin bor, s_iast, s_aload 0 1, s_getR 5 13, s_no, s_no, s_aload 0 1, s_getR 5 12, s_no, s_no, s_iload 1 1, s_push 1 1, s_bin iAd, s_iald, s_dup2, s_iald, s_push 1 1, s_aload 0 1, s_getR 5 12, s_no, s_no, s_iload 1 1, s_iald, s_bin bsl, s_bin bor, s_iast, s_iinc 1 1, s_no, s_no, s_goto 27, s_no, s_no, s_push 0 1, s_istore 1 1, s_push 0 1, s_istore 2 1, s_aload 0 1, s_push 0 1, s_putI 5 19, s_no, s_no, s_push 0 1, s_istore 3 1, s_iload 3 1, s_aload 0 1, s_getR 5 2, s_no, s_no, s_push 1 1, s_iald, s_icge 235, s_no, s_no, s_push 0 1, s_istore 4 2, s_no, s_push 0 1, s_istore 5 2, s_no, s_iload 5 2, s_no, s_aload 0 1, s_getR 5 2, s_no, s_no, s_push 0 1, s_iald, s_icge 186, s_no, s_no, s_iload 4 2, s_no, s_aload 0 1, s_iload 3 1, s_call 5 1 (s_scallI 94 2), s_no, s_no, s_iload 5 2, s_no, s_bin bsr, s_push 1 1, s_bin ban, s_push 1 1, s_icne 176, s_no, s_no, s_aload 0 1, s_iload 5 2, s_no, s_iload 3 1, s_iload 2 1, s_call 5 3 (s_scallI 93 4), s_no, s_no, s_ifeq 176, s_no, s_no, s_push 1 1, s_iload 5 2, s_no, s_bin bsl, s_goto 177, s_no, s_no, s_push 0 1, s_bin bor, s_istore 4 2, s_no, s_iinc 5 1, s_no, s_no, s_goto 131, s_no, s_no, s_iload 1 1, s_iload 4 2, s_no, s_aload 0 1, s_iload 3 1, s_call 5 1 (s_scallI 94 2), s_no, s_no, s_icne 201, s_no, s_no, s_push 1 1, s_goto 202, s_no, s_no, s_push 0 1, s_bin iAd, s_istore 1 1, s_aload 0 1, s_dup, s_getI 5 19, s_no, s_no, s_iload 4 2, s_no, s_scallI 82 1, s_no, s_no, s_bin iAd, s_putI 5 19, s_no, s_no, s_aload 0 1, s_getR 5 15, s_no, s_no, s_iload 3 1, s_iload 4 2, s_no, s_iast, s_iload 4 2, s_no, s_istore 2 1, s_iinc 3 1, s_no, s_no, s_goto 115, s_no, s_no, s_iload 1 1, s_iret]
set_option maxRecDepth 100000 in
theorem f95 : ∀ s ∈ k95, Form s := fc (fm_push _ _) <| fc (fm_istore _ _) <| fc (fm_iload _ _) <| fc (fm_aload _ _) <| fc (fm_getR _ _) <| fc fm_no <| fc fm_no <| fc (fm_push _ _) <| fc fm_iald <| fc (fm_icge _) <| fc fm_no <| fc fm_no <| fc (fm_aload _ _) <| fc (fm_getR _ _) <| fc fm_no <| fc fm_no <| fc (fm_iload _ _) <| fc (fm_push _ _) <| fc fm_iast <| fc (fm_iinc _ _) <| fc fm_no <| fc fm_no <| fc (fm_goto _) <| fc fm_no <| fc fm_no <| fc (fm_push _ _) <| fc (fm_istore _ _) <| fc (fm_iload _ _) <| fc (fm_push _ _) <| fc (fm_bin _) <| fc (fm_aload _ _) <| fc (fm_getR _ _) <| fc fm_no <| fc fm_no <| fc (fm_push _ _) <| fc fm_iald <| fc (fm_icge _) <| fc fm_no <| fc fm_no <| fc (fm_aload _ _) <| fc (fm_getI _ _) <| fc fm_no <| fc fm_no <| fc (fm_iload _ _) <| fc (fm_bin _) <| fc (fm_push _ _) <| fc (fm_bin _) <| fc (fm_ifne _) <| fc fm_no <| fc fm_no <| fc (fm_aload _ _) <| fc (fm_getR _ _) <| fc fm_no <| fc fm_no <| fc (fm_aload _ _) <| fc (fm_getR _ _) <| fc fm_no <| fc fm_no <| fc (fm_iload _ _) <| fc fm_iald <| fc fm_dup2 <| fc fm_iald <| fc (fm_push _ _) <| fc (fm_aload _ _) <| fc (fm_getR _ _) <| fc fm_no <| fc fm_no <| fc (fm_iload _ _) <| fc (fm_push _ _) <| fc (fm_bin _) <| fc fm_iald <| fc (fm_bin _) <| fc (fm_bin _) <| fc fm_iast <| fc (fm_aload _ _) <| fc (fm_getR _ _) <| fc fm_no <| fc fm_no <| fc (fm_aload _ _) <| fc (fm_getR _ _) <| fc fm_no <| fc fm_no <| fc (fm_iload _ _) <| fc (fm_push _ _) <| fc (fm_bin _) <| fc fm_iald <| fc fm_dup2 <| fc fm_iald <| fc (fm_push _ _) <| fc (fm_aload _ _) <| fc (fm_getR _ _) <| fc fm_no <| fc fm_no <| fc (fm_iload _ _) <| fc fm_iald <| fc (fm_bin _) <| fc (fm_bin _) <| fc fm_iast <| fc (fm_iinc _ _) <| fc fm_no <| fc fm_no <| fc (fm_goto _) <| fc fm_no <| fc fm_no <| fc (fm_push _ _) <| fc (fm_istore _ _) <| fc (fm_push _ _) <| fc (fm_istore _ _) <| fc (fm_aload _ _) <| fc (fm_push _ _) <| fc (fm_putI _ _ (by decide)) <| fc fm_no <| fc fm_no <| fc (fm_push _ _) <| fc (fm_istore _ _) <| fc (fm_iload _ _) <| fc (fm_aload _ _) <| fc (fm_getR _ _) <| fc fm_no <| fc fm_no <| fc (fm_push _ _) <| fc fm_iald <| fc (fm_icge _) <| fc fm_no <| fc fm_no <| fc (fm_push _ _) <| fc (fm_istore _ _) <| fc fm_no <| fc (fm_push _ _) <| fc (fm_istore _ _) <| fc fm_no <| fc (fm_iload _ _) <| fc fm_no <| fc (fm_aload _ _) <| fc (fm_getR _ _) <| fc fm_no <| fc fm_no <| fc (fm_push _ _) <| fc fm_iald <| fc (fm_icge _) <| fc fm_no <| fc fm_no <| fc (fm_iload _ _) <| fc fm_no <| fc (fm_aload _ _) <| fc (fm_iload _ _) <| fc (fm_call _ _ _ (fm_scallI _ _)) <| fc fm_no <| fc fm_no <| fc (fm_iload _ _) <| fc fm_no <| fc (fm_bin _) <| fc (fm_push _ _) <| fc (fm_bin _) <| fc (fm_push _ _) <| fc (fm_icne _) <| fc fm_no <| fc fm_no <| fc (fm_aload _ _) <| fc (fm_iload _ _) <| fc fm_no <| fc (fm_iload _ _) <| fc (fm_iload _ _) <| fc (fm_call _ _ _ (fm_scallI _ _)) <| fc fm_no <| fc fm_no <| fc (fm_ifeq _) <| fc fm_no <| fc fm_no <| fc (fm_push _ _) <| fc (fm_iload _ _) <| fc fm_no <| fc (fm_bin _) <| fc (fm_goto _) <| fc fm_no <| fc fm_no <| fc (fm_push _ _) <| fc (fm_bin _) <| fc (fm_istore _ _) <| fc fm_no <| fc (fm_iinc _ _) <| fc fm_no <| fc fm_no <| fc (fm_goto _) <| fc fm_no <| fc fm_no <| fc (fm_iload _ _) <| fc (fm_iload _ _) <| fc fm_no <| fc (fm_aload _ _) <| fc (fm_iload _ _) <| fc (fm_call _ _ _ (fm_scallI _ _)) <| fc fm_no <| fc fm_no <| fc (fm_icne _) <| fc fm_no <| fc fm_no <| fc (fm_push _ _) <| fc (fm_goto _) <| fc fm_no <| fc fm_no <| fc (fm_push _ _) <| fc (fm_bin _) <| fc (fm_istore _ _) <| fc (fm_aload _ _) <| fc fm_dup <| fc (fm_getI _ _) <| fc fm_no <| fc fm_no <| fc (fm_iload _ _) <| fc fm_no <| fc (fm_scallI _ _) <| fc fm_no <| fc fm_no <| fc (fm_bin _) <| fc (fm_putI _ _ (by decide)) <| fc fm_no <| fc fm_no <| fc (fm_aload _ _) <| fc (fm_getR _ _) <| fc fm_no <| fc fm_no <| fc (fm_iload _ _) <| fc (fm_iload _ _) <| fc fm_no <| fc fm_iast <| fc (fm_iload _ _) <| fc fm_no <| fc (fm_istore _ _) <| fc (fm_iinc _ _) <| fc fm_no <| fc fm_no <| fc (fm_goto _) <| fc fm_no <| fc fm_no <| fc (fm_iload _ _) <| fc fm_iret <| fc_0
-- 96: SecondOboeModel.seatOf(I)I
def k96 : List Step := [s_push 0 1, s_istore 2 1, s_push 0 1, s_istore 3 1, s_iload 3 1, s_aload 0 1, s_getR 5 2, s_no, s_no, s_push 0 1, s_iald, s_icge 36, s_no, s_no, s_aload 0 1, s_getR 5 4, s_no, s_no, s_iload 3 1, s_iald, s_iload 1 1, s_icne 28, s_no, s_no, s_iload 3 1, s_goto 29, s_no, s_no, s_iload 2 1, s_istore 2 1, s_iinc 3 1, s_no, s_no, s_goto 4, s_no, s_no, s_iload 2 1, s_iret]
set_option maxRecDepth 100000 in
theorem f96 : ∀ s ∈ k96, Form s := fc (fm_push _ _) <| fc (fm_istore _ _) <| fc (fm_push _ _) <| fc (fm_istore _ _) <| fc (fm_iload _ _) <| fc (fm_aload _ _) <| fc (fm_getR _ _) <| fc fm_no <| fc fm_no <| fc (fm_push _ _) <| fc fm_iald <| fc (fm_icge _) <| fc fm_no <| fc fm_no <| fc (fm_aload _ _) <| fc (fm_getR _ _) <| fc fm_no <| fc fm_no <| fc (fm_iload _ _) <| fc fm_iald <| fc (fm_iload _ _) <| fc (fm_icne _) <| fc fm_no <| fc fm_no <| fc (fm_iload _ _) <| fc (fm_goto _) <| fc fm_no <| fc fm_no <| fc (fm_iload _ _) <| fc (fm_istore _ _) <| fc (fm_iinc _ _) <| fc fm_no <| fc fm_no <| fc (fm_goto _) <| fc fm_no <| fc fm_no <| fc (fm_iload _ _) <| fc fm_iret <| fc_0
-- 97: SecondOboeModel.instrument(II)I
def k97 : List Step := [s_aload 0 1, s_iload 1 1, s_call 5 1 (s_scallI 80 2), s_no, s_no, s_ifne 10, s_no, s_no, s_push (-1) 1, s_iret, s_aload 0 1, s_call 5 0 (s_scallV 92 1), s_no, s_no, s_aload 0 1, s_call 5 0 (s_scallI 95 1), s_no, s_no, s_pop, s_iload 2 1, s_switch [(0, 60), (1, 69), (2, 79), (3, 89), (4, 95), (5, 107)] 114, s_no, s_no, s_no, s_no, s_no, s_no, s_no, s_no, s_no, s_no, s_no, s_no, s_no, s_no, s_no, s_no, s_no, s_no, s_no, s_no, s_no, s_no, s_no, s_no, s_no, s_no, s_no, s_no, s_no, s_no, s_no, s_no, s_no, s_no, s_no, s_no, s_no, s_no, s_no, s_aload 0 1, s_getR 5 2, s_no, s_no, s_push 4 1, s_iload 1 1, s_bin iAd, s_iald, s_iret, s_aload 0 1, s_getR 5 2, s_no, s_no, s_push 11 2, s_no, s_iload 1 1, s_bin iAd, s_iald, s_iret, s_aload 0 1, s_getR 5 2, s_no, s_no, s_push 18 2, s_no, s_iload 1 1, s_bin iAd, s_iald, s_iret, s_aload 0 1, s_iload 1 1, s_call 5 1 (s_scallI 96 2), s_no, s_no, s_iret, s_aload 0 1, s_getR 5 4, s_no, s_no, s_push 7 2, s_no, s_iald, s_iload 1 1, s_bin bsr, s_push 1 1, s_bin ban, s_iret, s_aload 0 1, s_getR 5 13, s_no, s_no, s_iload 1 1, s_iald, s_iret, s_push (-1) 1, s_iret]
set_option maxRecDepth 100000 in
theorem f97 : ∀ s ∈ k97, Form s := fc (fm_aload _ _) <| fc (fm_iload _ _) <| fc (fm_call _ _ _ (fm_scallI _ _)) <| fc fm_no <| fc fm_no <| fc (fm_ifne _) <| fc fm_no <| fc fm_no <| fc (fm_push _ _) <| fc fm_iret <| fc (fm_aload _ _) <| fc (fm_call _ _ _ (fm_scallV _ _)) <| fc fm_no <| fc fm_no <| fc (fm_aload _ _) <| fc (fm_call _ _ _ (fm_scallI _ _)) <| fc fm_no <| fc fm_no <| fc fm_pop <| fc (fm_iload _ _) <| fc (fm_switch _ _) <| fc fm_no <| fc fm_no <| fc fm_no <| fc fm_no <| fc fm_no <| fc fm_no <| fc fm_no <| fc fm_no <| fc fm_no <| fc fm_no <| fc fm_no <| fc fm_no <| fc fm_no <| fc fm_no <| fc fm_no <| fc fm_no <| fc fm_no <| fc fm_no <| fc fm_no <| fc fm_no <| fc fm_no <| fc fm_no <| fc fm_no <| fc fm_no <| fc fm_no <| fc fm_no <| fc fm_no <| fc fm_no <| fc fm_no <| fc fm_no <| fc fm_no <| fc fm_no <| fc fm_no <| fc fm_no <| fc fm_no <| fc fm_no <| fc fm_no <| fc fm_no <| fc fm_no <| fc (fm_aload _ _) <| fc (fm_getR _ _) <| fc fm_no <| fc fm_no <| fc (fm_push _ _) <| fc (fm_iload _ _) <| fc (fm_bin _) <| fc fm_iald <| fc fm_iret <| fc (fm_aload _ _) <| fc (fm_getR _ _) <| fc fm_no <| fc fm_no <| fc (fm_push _ _) <| fc fm_no <| fc (fm_iload _ _) <| fc (fm_bin _) <| fc fm_iald <| fc fm_iret <| fc (fm_aload _ _) <| fc (fm_getR _ _) <| fc fm_no <| fc fm_no <| fc (fm_push _ _) <| fc fm_no <| fc (fm_iload _ _) <| fc (fm_bin _) <| fc fm_iald <| fc fm_iret <| fc (fm_aload _ _) <| fc (fm_iload _ _) <| fc (fm_call _ _ _ (fm_scallI _ _)) <| fc fm_no <| fc fm_no <| fc fm_iret <| fc (fm_aload _ _) <| fc (fm_getR _ _) <| fc fm_no <| fc fm_no <| fc (fm_push _ _) <| fc fm_no <| fc fm_iald <| fc (fm_iload _ _) <| fc (fm_bin _) <| fc (fm_push _ _) <| fc (fm_bin _) <| fc fm_iret <| fc (fm_aload _ _) <| fc (fm_getR _ _) <| fc fm_no <| fc fm_no <| fc (fm_iload _ _) <| fc fm_iald <| fc fm_iret <| fc (fm_push _ _) <| fc fm_iret <| fc_0
-- 98: SecondOboeModel.seat(I)I
def k98 : List Step := [s_aload 0 1, s_iload 1 1, s_call 5 1 (s_scallI 80 2), s_no, s_no, s_ifeq 17, s_no, s_no, s_aload 0 1, s_getR 5 4, s_no, s_no, s_iload 1 1, s_iald, s_goto 18, s_no, s_no, s_push (-1) 1, s_iret]
set_option maxRecDepth 100000 in
theorem f98 : ∀ s ∈ k98, Form s := fc (fm_aload _ _) <| fc (fm_iload _ _) <| fc (fm_call _ _ _ (fm_scallI _ _)) <| fc fm_no <| fc fm_no <| fc (fm_ifeq _) <| fc fm_no <| fc fm_no <| fc (fm_aload _ _) <| fc (fm_getR _ _) <| fc fm_no <| fc fm_no <| fc (fm_iload _ _) <| fc fm_iald <| fc (fm_goto _) <| fc fm_no <| fc fm_no <| fc (fm_push _ _) <| fc fm_iret <| fc_0
-- 99: SecondOboeModel.asked(I)I
def k99 : List Step := [s_aload 0 1, s_iload 1 1, s_call 5 1 (s_scallI 81 2), s_no, s_no, s_ifeq 20, s_no, s_no, s_aload 0 1, s_getR 5 2, s_no, s_no, s_push 25 2, s_no, s_iload 1 1, s_bin iAd, s_iald, s_goto 21, s_no, s_no, s_push (-1) 1, s_iret]
set_option maxRecDepth 100000 in
theorem f99 : ∀ s ∈ k99, Form s := fc (fm_aload _ _) <| fc (fm_iload _ _) <| fc (fm_call _ _ _ (fm_scallI _ _)) <| fc fm_no <| fc fm_no <| fc (fm_ifeq _) <| fc fm_no <| fc fm_no <| fc (fm_aload _ _) <| fc (fm_getR _ _) <| fc fm_no <| fc fm_no <| fc (fm_push _ _) <| fc fm_no <| fc (fm_iload _ _) <| fc (fm_bin _) <| fc fm_iald <| fc (fm_goto _) <| fc fm_no <| fc fm_no <| fc (fm_push _ _) <| fc fm_iret <| fc_0
-- 100: SecondOboeModel.plays(I)I
def k100 : List Step := [s_aload 0 1, s_iload 1 1, s_call 5 1 (s_scallI 81 2), s_no, s_no, s_ifne 10, s_no, s_no, s_push (-1) 1, s_iret, s_aload 0 1, s_call 5 0 (s_scallV 92 1), s_no, s_no, s_aload 0 1, s_call 5 0 (s_scallI 95 1), s_no, s_no, s_pop, s_aload 0 1, s_getR 5 15, s_no, s_no, s_iload 1 1, s_iald, s_iret]
set_option maxRecDepth 100000 in
theorem f100 : ∀ s ∈ k100, Form s := fc (fm_aload _ _) <| fc (fm_iload _ _) <| fc (fm_call _ _ _ (fm_scallI _ _)) <| fc fm_no <| fc fm_no <| fc (fm_ifne _) <| fc fm_no <| fc fm_no <| fc (fm_push _ _) <| fc fm_iret <| fc (fm_aload _ _) <| fc (fm_call _ _ _ (fm_scallV _ _)) <| fc fm_no <| fc fm_no <| fc (fm_aload _ _) <| fc (fm_call _ _ _ (fm_scallI _ _)) <| fc fm_no <| fc fm_no <| fc fm_pop <| fc (fm_aload _ _) <| fc (fm_getR _ _) <| fc fm_no <| fc fm_no <| fc (fm_iload _ _) <| fc fm_iald <| fc fm_iret <| fc_0
-- 101: SecondOboeModel.missing(I)I
def k101 : List Step := [s_aload 0 1, s_iload 1 1, s_call 5 1 (s_scallI 81 2), s_no, s_no, s_ifeq 28, s_no, s_no, s_aload 0 1, s_getR 5 2, s_no, s_no, s_push 25 2, s_no, s_iload 1 1, s_bin iAd, s_iald, s_aload 0 1, s_iload 1 1, s_call 5 1 (s_scallI 100 2), s_no, s_no, s_push (-1) 1, s_bin bxo, s_bin ban, s_goto 29, s_no, s_no, s_push (-1) 1, s_iret]
set_option maxRecDepth 100000 in
theorem f101 : ∀ s ∈ k101, Form s := fc (fm_aload _ _) <| fc (fm_iload _ _) <| fc (fm_call _ _ _ (fm_scallI _ _)) <| fc fm_no <| fc fm_no <| fc (fm_ifeq _) <| fc fm_no <| fc fm_no <| fc (fm_aload _ _) <| fc (fm_getR _ _) <| fc fm_no <| fc fm_no <| fc (fm_push _ _) <| fc fm_no <| fc (fm_iload _ _) <| fc (fm_bin _) <| fc fm_iald <| fc (fm_aload _ _) <| fc (fm_iload _ _) <| fc (fm_call _ _ _ (fm_scallI _ _)) <| fc fm_no <| fc fm_no <| fc (fm_push _ _) <| fc (fm_bin _) <| fc (fm_bin _) <| fc (fm_goto _) <| fc fm_no <| fc fm_no <| fc (fm_push _ _) <| fc fm_iret <| fc_0
-- 102: SecondOboeModel.first()I
def k102 : List Step := [s_aload 0 1, s_call 5 0 (s_scallV 92 1), s_no, s_no, s_aload 0 1, s_call 5 0 (s_scallI 95 1), s_no, s_no, s_pop, s_push (-4) 2, s_no, s_istore 1 1, s_aload 0 1, s_getR 5 2, s_no, s_no, s_push 1 1, s_iald, s_push 1 1, s_bin iSu, s_istore 2 1, s_iload 2 1, s_iflt 55, s_no, s_no, s_aload 0 1, s_getR 5 15, s_no, s_no, s_iload 2 1, s_iald, s_aload 0 1, s_getR 5 2, s_no, s_no, s_push 25 2, s_no, s_iload 2 1, s_bin iAd, s_iald, s_iceq 47, s_no, s_no, s_iload 2 1, s_goto 48, s_no, s_no, s_iload 1 1, s_istore 1 1, s_iinc 2 (-1), s_no, s_no, s_goto 21, s_no, s_no, s_iload 1 1, s_iret]
set_option maxRecDepth 100000 in
theorem f102 : ∀ s ∈ k102, Form s := fc (fm_aload _ _) <| fc (fm_call _ _ _ (fm_scallV _ _)) <| fc fm_no <| fc fm_no <| fc (fm_aload _ _) <| fc (fm_call _ _ _ (fm_scallI _ _)) <| fc fm_no <| fc fm_no <| fc fm_pop <| fc (fm_push _ _) <| fc fm_no <| fc (fm_istore _ _) <| fc (fm_aload _ _) <| fc (fm_getR _ _) <| fc fm_no <| fc fm_no <| fc (fm_push _ _) <| fc fm_iald <| fc (fm_push _ _) <| fc (fm_bin _) <| fc (fm_istore _ _) <| fc (fm_iload _ _) <| fc (fm_iflt _) <| fc fm_no <| fc fm_no <| fc (fm_aload _ _) <| fc (fm_getR _ _) <| fc fm_no <| fc fm_no <| fc (fm_iload _ _) <| fc fm_iald <| fc (fm_aload _ _) <| fc (fm_getR _ _) <| fc fm_no <| fc fm_no <| fc (fm_push _ _) <| fc fm_no <| fc (fm_iload _ _) <| fc (fm_bin _) <| fc fm_iald <| fc (fm_iceq _) <| fc fm_no <| fc fm_no <| fc (fm_iload _ _) <| fc (fm_goto _) <| fc fm_no <| fc fm_no <| fc (fm_iload _ _) <| fc (fm_istore _ _) <| fc (fm_iinc _ _) <| fc fm_no <| fc fm_no <| fc (fm_goto _) <| fc fm_no <| fc fm_no <| fc (fm_iload _ _) <| fc fm_iret <| fc_0
-- 103: SecondOboeModel.notes(I)I
def k103 : List Step := [s_iload 1 1, s_push 0 1, s_push 1 1, s_scallI 79 3, s_no, s_no, s_ifne 11, s_no, s_no, s_push (-1) 1, s_iret, s_aload 0 1, s_call 5 0 (s_scallV 92 1), s_no, s_no, s_aload 0 1, s_call 5 0 (s_scallI 95 1), s_no, s_no, s_istore 2 1, s_iload 1 1, s_ifne 31, s_no, s_no, s_aload 0 1, s_getI 5 19, s_no, s_no, s_goto 32, s_no, s_no, s_iload 2 1, s_iret]
set_option maxRecDepth 100000 in
theorem f103 : ∀ s ∈ k103, Form s := fc (fm_iload _ _) <| fc (fm_push _ _) <| fc (fm_push _ _) <| fc (fm_scallI _ _) <| fc fm_no <| fc fm_no <| fc (fm_ifne _) <| fc fm_no <| fc fm_no <| fc (fm_push _ _) <| fc fm_iret <| fc (fm_aload _ _) <| fc (fm_call _ _ _ (fm_scallV _ _)) <| fc fm_no <| fc fm_no <| fc (fm_aload _ _) <| fc (fm_call _ _ _ (fm_scallI _ _)) <| fc fm_no <| fc fm_no <| fc (fm_istore _ _) <| fc (fm_iload _ _) <| fc (fm_ifne _) <| fc fm_no <| fc fm_no <| fc (fm_aload _ _) <| fc (fm_getI _ _) <| fc fm_no <| fc fm_no <| fc (fm_goto _) <| fc fm_no <| fc fm_no <| fc (fm_iload _ _) <| fc fm_iret <| fc_0
-- 104: SecondOboeModel.keeps()V
def k104 : List Step := [s_aload 0 1, s_getI 5 6, s_no, s_no, s_push 8 2, s_no, s_icne 48, s_no, s_no, s_push 0 1, s_istore 1 1, s_iload 1 1, s_push 56 2, s_no, s_icge 38, s_no, s_no, s_aload 0 1, s_getR 5 5, s_no, s_no, s_iload 1 1, s_aload 0 1, s_getR 5 5, s_no, s_no, s_iload 1 1, s_push 8 2, s_no, s_bin iAd, s_iald, s_iast, s_iinc 1 1, s_no, s_no, s_goto 11, s_no, s_no, s_aload 0 1, s_dup, s_getI 5 6, s_no, s_no, s_push 1 1, s_bin iSu, s_putI 5 6, s_no, s_no, s_push 0 1, s_istore 1 1, s_iload 1 1, s_push 8 2, s_no, s_icge 82, s_no, s_no, s_aload 0 1, s_getR 5 5, s_no, s_no, s_push 8 2, s_no, s_aload 0 1, s_getI 5 6, s_no, s_no, s_bin iMu, s_iload 1 1, s_bin iAd, s_aload 0 1, s_getR 5 4, s_no, s_no, s_iload 1 1, s_iald, s_iast, s_iinc 1 1, s_no, s_no, s_goto 50, s_no, s_no, s_aload 0 1, s_dup, s_getI 5 6, s_no, s_no, s_push 1 1, s_bin iAd, s_putI 5 6, s_no, s_no, s_vret]
set_option maxRecDepth 100000 in
theorem f104 : ∀ s ∈ k104, Form s := fc (fm_aload _ _) <| fc (fm_getI _ _) <| fc fm_no <| fc fm_no <| fc (fm_push _ _) <| fc fm_no <| fc (fm_icne _) <| fc fm_no <| fc fm_no <| fc (fm_push _ _) <| fc (fm_istore _ _) <| fc (fm_iload _ _) <| fc (fm_push _ _) <| fc fm_no <| fc (fm_icge _) <| fc fm_no <| fc fm_no <| fc (fm_aload _ _) <| fc (fm_getR _ _) <| fc fm_no <| fc fm_no <| fc (fm_iload _ _) <| fc (fm_aload _ _) <| fc (fm_getR _ _) <| fc fm_no <| fc fm_no <| fc (fm_iload _ _) <| fc (fm_push _ _) <| fc fm_no <| fc (fm_bin _) <| fc fm_iald <| fc fm_iast <| fc (fm_iinc _ _) <| fc fm_no <| fc fm_no <| fc (fm_goto _) <| fc fm_no <| fc fm_no <| fc (fm_aload _ _) <| fc fm_dup <| fc (fm_getI _ _) <| fc fm_no <| fc fm_no <| fc (fm_push _ _) <| fc (fm_bin _) <| fc (fm_putI _ _ (by decide)) <| fc fm_no <| fc fm_no <| fc (fm_push _ _) <| fc (fm_istore _ _) <| fc (fm_iload _ _) <| fc (fm_push _ _) <| fc fm_no <| fc (fm_icge _) <| fc fm_no <| fc fm_no <| fc (fm_aload _ _) <| fc (fm_getR _ _) <| fc fm_no <| fc fm_no <| fc (fm_push _ _) <| fc fm_no <| fc (fm_aload _ _) <| fc (fm_getI _ _) <| fc fm_no <| fc fm_no <| fc (fm_bin _) <| fc (fm_iload _ _) <| fc (fm_bin _) <| fc (fm_aload _ _) <| fc (fm_getR _ _) <| fc fm_no <| fc fm_no <| fc (fm_iload _ _) <| fc fm_iald <| fc fm_iast <| fc (fm_iinc _ _) <| fc fm_no <| fc fm_no <| fc (fm_goto _) <| fc fm_no <| fc fm_no <| fc (fm_aload _ _) <| fc fm_dup <| fc (fm_getI _ _) <| fc fm_no <| fc fm_no <| fc (fm_push _ _) <| fc (fm_bin _) <| fc (fm_putI _ _ (by decide)) <| fc fm_no <| fc fm_no <| fc fm_vret <| fc_0
-- 105: SecondOboeModel.change(II)I
def k105 : List Step := [s_aload 0 1, s_iload 1 1, s_call 5 1 (s_scallI 80 2), s_no, s_no, s_ifeq 21, s_no, s_no, s_aload 0 1, s_iload 2 1, s_call 5 1 (s_scallI 80 2), s_no, s_no, s_ifeq 21, s_no, s_no, s_iload 1 1, s_iload 2 1, s_icne 23, s_no, s_no, s_push (-1) 1, s_iret, s_aload 0 1, s_call 5 0 (s_scallV 104 1), s_no, s_no, s_aload 0 1, s_getR 5 4, s_no, s_no, s_iload 1 1, s_iald, s_istore 3 1, s_aload 0 1, s_getR 5 4, s_no, s_no, s_iload 1 1, s_aload 0 1, s_getR 5 4, s_no, s_no, s_iload 2 1, s_iald, s_iast, s_aload 0 1, s_getR 5 4, s_no, s_no, s_iload 2 1, s_iload 3 1, s_iast, s_aload 0 1, s_getR 5 4, s_no, s_no, s_iload 1 1, s_iald, s_iret]
set_option maxRecDepth 100000 in
theorem f105 : ∀ s ∈ k105, Form s := fc (fm_aload _ _) <| fc (fm_iload _ _) <| fc (fm_call _ _ _ (fm_scallI _ _)) <| fc fm_no <| fc fm_no <| fc (fm_ifeq _) <| fc fm_no <| fc fm_no <| fc (fm_aload _ _) <| fc (fm_iload _ _) <| fc (fm_call _ _ _ (fm_scallI _ _)) <| fc fm_no <| fc fm_no <| fc (fm_ifeq _) <| fc fm_no <| fc fm_no <| fc (fm_iload _ _) <| fc (fm_iload _ _) <| fc (fm_icne _) <| fc fm_no <| fc fm_no <| fc (fm_push _ _) <| fc fm_iret <| fc (fm_aload _ _) <| fc (fm_call _ _ _ (fm_scallV _ _)) <| fc fm_no <| fc fm_no <| fc (fm_aload _ _) <| fc (fm_getR _ _) <| fc fm_no <| fc fm_no <| fc (fm_iload _ _) <| fc fm_iald <| fc (fm_istore _ _) <| fc (fm_aload _ _) <| fc (fm_getR _ _) <| fc fm_no <| fc fm_no <| fc (fm_iload _ _) <| fc (fm_aload _ _) <| fc (fm_getR _ _) <| fc fm_no <| fc fm_no <| fc (fm_iload _ _) <| fc fm_iald <| fc fm_iast <| fc (fm_aload _ _) <| fc (fm_getR _ _) <| fc fm_no <| fc fm_no <| fc (fm_iload _ _) <| fc (fm_iload _ _) <| fc fm_iast <| fc (fm_aload _ _) <| fc (fm_getR _ _) <| fc fm_no <| fc fm_no <| fc (fm_iload _ _) <| fc fm_iald <| fc fm_iret <| fc_0
-- 106: SecondOboeModel.costOf(I)I
def k106 : List Step := [s_push 0 1, s_istore 2 1, s_push 0 1, s_istore 3 1, s_iload 3 1, s_aload 0 1, s_getR 5 2, s_no, s_no, s_push 0 1, s_iald, s_icge 45, s_no, s_no, s_iload 2 1, s_iload 1 1, s_iload 3 1, s_bin bsr, s_push 1 1, s_bin ban, s_push 1 1, s_icne 36, s_no, s_no, s_aload 0 1, s_getR 5 2, s_no, s_no, s_push 18 2, s_no, s_iload 3 1, s_bin iAd, s_iald, s_goto 37, s_no, s_no, s_push 0 1, s_bin iAd, s_istore 2 1, s_iinc 3 1, s_no, s_no, s_goto 4, s_no, s_no, s_iload 2 1, s_iret]
set_option maxRecDepth 100000 in
theorem f106 : ∀ s ∈ k106, Form s := fc (fm_push _ _) <| fc (fm_istore _ _) <| fc (fm_push _ _) <| fc (fm_istore _ _) <| fc (fm_iload _ _) <| fc (fm_aload _ _) <| fc (fm_getR _ _) <| fc fm_no <| fc fm_no <| fc (fm_push _ _) <| fc fm_iald <| fc (fm_icge _) <| fc fm_no <| fc fm_no <| fc (fm_iload _ _) <| fc (fm_iload _ _) <| fc (fm_iload _ _) <| fc (fm_bin _) <| fc (fm_push _ _) <| fc (fm_bin _) <| fc (fm_push _ _) <| fc (fm_icne _) <| fc fm_no <| fc fm_no <| fc (fm_aload _ _) <| fc (fm_getR _ _) <| fc fm_no <| fc fm_no <| fc (fm_push _ _) <| fc fm_no <| fc (fm_iload _ _) <| fc (fm_bin _) <| fc fm_iald <| fc (fm_goto _) <| fc fm_no <| fc fm_no <| fc (fm_push _ _) <| fc (fm_bin _) <| fc (fm_istore _ _) <| fc (fm_iinc _ _) <| fc fm_no <| fc fm_no <| fc (fm_goto _) <| fc fm_no <| fc fm_no <| fc (fm_iload _ _) <| fc fm_iret <| fc_0
-- 107: SecondOboeModel.bribe(I)I
def k107 : List Step := [s_aload 0 1, s_iload 1 1, s_call 5 1 (s_scallI 80 2), s_no, s_no, s_ifne 10, s_no, s_no, s_push (-1) 1, s_iret, s_aload 0 1, s_call 5 0 (s_scallV 104 1), s_no, s_no, s_aload 0 1, s_getR 5 4, s_no, s_no, s_push 7 2, s_no, s_dup2, s_iald, s_push 1 1, s_iload 1 1, s_bin bsl, s_bin bxo, s_iast, s_aload 0 1, s_aload 0 1, s_getR 5 4, s_no, s_no, s_push 7 2, s_no, s_iald, s_call 5 1 (s_scallI 106 2), s_no, s_no, s_iret]
set_option maxRecDepth 100000 in
theorem f107 : ∀ s ∈ k107, Form s := fc (fm_aload _ _) <| fc (fm_iload _ _) <| fc (fm_call _ _ _ (fm_scallI _ _)) <| fc fm_no <| fc fm_no <| fc (fm_ifne _) <| fc fm_no <| fc fm_no <| fc (fm_push _ _) <| fc fm_iret <| fc (fm_aload _ _) <| fc (fm_call _ _ _ (fm_scallV _ _)) <| fc fm_no <| fc fm_no <| fc (fm_aload _ _) <| fc (fm_getR _ _) <| fc fm_no <| fc fm_no <| fc (fm_push _ _) <| fc fm_no <| fc fm_dup2 <| fc fm_iald <| fc (fm_push _ _) <| fc (fm_iload _ _) <| fc (fm_bin _) <| fc (fm_bin _) <| fc fm_iast <| fc (fm_aload _ _) <| fc (fm_aload _ _) <| fc (fm_getR _ _) <| fc fm_no <| fc fm_no <| fc (fm_push _ _) <| fc fm_no <| fc fm_iald <| fc (fm_call _ _ _ (fm_scallI _ _)) <| fc fm_no <| fc fm_no <| fc fm_iret <| fc_0
-- 108: SecondOboeModel.undo()I
def k108 : List Step := [s_aload 0 1, s_getI 5 6, s_no, s_no, s_ifne 10, s_no, s_no, s_push (-2) 2, s_no, s_iret, s_aload 0 1, s_dup, s_getI 5 6, s_no, s_no, s_push 1 1, s_bin iSu, s_putI 5 6, s_no, s_no, s_push 0 1, s_istore 1 1, s_iload 1 1, s_push 8 2, s_no, s_icge 54, s_no, s_no, s_aload 0 1, s_getR 5 4, s_no, s_no, s_iload 1 1, s_aload 0 1, s_getR 5 5, s_no, s_no, s_push 8 2, s_no, s_aload 0 1, s_getI 5 6, s_no, s_no, s_bin iMu, s_iload 1 1, s_bin iAd, s_iald, s_iast, s_iinc 1 1, s_no, s_no, s_goto 22, s_no, s_no, s_aload 0 1, s_getI 5 6, s_no, s_no, s_iret]
set_option maxRecDepth 100000 in
theorem f108 : ∀ s ∈ k108, Form s := fc (fm_aload _ _) <| fc (fm_getI _ _) <| fc fm_no <| fc fm_no <| fc (fm_ifne _) <| fc fm_no <| fc fm_no <| fc (fm_push _ _) <| fc fm_no <| fc fm_iret <| fc (fm_aload _ _) <| fc fm_dup <| fc (fm_getI _ _) <| fc fm_no <| fc fm_no <| fc (fm_push _ _) <| fc (fm_bin _) <| fc (fm_putI _ _ (by decide)) <| fc fm_no <| fc fm_no <| fc (fm_push _ _) <| fc (fm_istore _ _) <| fc (fm_iload _ _) <| fc (fm_push _ _) <| fc fm_no <| fc (fm_icge _) <| fc fm_no <| fc fm_no <| fc (fm_aload _ _) <| fc (fm_getR _ _) <| fc fm_no <| fc fm_no <| fc (fm_iload _ _) <| fc (fm_aload _ _) <| fc (fm_getR _ _) <| fc fm_no <| fc fm_no <| fc (fm_push _ _) <| fc fm_no <| fc (fm_aload _ _) <| fc (fm_getI _ _) <| fc fm_no <| fc fm_no <| fc (fm_bin _) <| fc (fm_iload _ _) <| fc (fm_bin _) <| fc fm_iald <| fc fm_iast <| fc (fm_iinc _ _) <| fc fm_no <| fc fm_no <| fc (fm_goto _) <| fc fm_no <| fc fm_no <| fc (fm_aload _ _) <| fc (fm_getI _ _) <| fc fm_no <| fc fm_no <| fc fm_iret <| fc_0
-- 109: SecondOboeModel.firstSeating()V
def k109 : List Step := [s_push 0 1, s_istore 1 1, s_iload 1 1, s_aload 0 1, s_getR 5 2, s_no, s_no, s_push 0 1, s_iald, s_icge 25, s_no, s_no, s_aload 0 1, s_getR 5 12, s_no, s_no, s_iload 1 1, s_iload 1 1, s_iast, s_iinc 1 1, s_no, s_no, s_goto 2, s_no, s_no, s_vret]
set_option maxRecDepth 100000 in
theorem f109 : ∀ s ∈ k109, Form s := fc (fm_push _ _) <| fc (fm_istore _ _) <| fc (fm_iload _ _) <| fc (fm_aload _ _) <| fc (fm_getR _ _) <| fc fm_no <| fc fm_no <| fc (fm_push _ _) <| fc fm_iald <| fc (fm_icge _) <| fc fm_no <| fc fm_no <| fc (fm_aload _ _) <| fc (fm_getR _ _) <| fc fm_no <| fc fm_no <| fc (fm_iload _ _) <| fc (fm_iload _ _) <| fc fm_iast <| fc (fm_iinc _ _) <| fc fm_no <| fc fm_no <| fc (fm_goto _) <| fc fm_no <| fc fm_no <| fc fm_vret <| fc_0
-- 110: SecondOboeModel.swaps(II)V
def k110 : List Step := [s_aload 0 1, s_getR 5 12, s_no, s_no, s_iload 1 1, s_iald, s_istore 3 1, s_aload 0 1, s_getR 5 12, s_no, s_no, s_iload 1 1, s_aload 0 1, s_getR 5 12, s_no, s_no, s_iload 2 1, s_iald, s_iast, s_aload 0 1, s_getR 5 12, s_no, s_no, s_iload 2 1, s_iload 3 1, s_iast, s_vret]
set_option maxRecDepth 100000 in
theorem f110 : ∀ s ∈ k110, Form s := fc (fm_aload _ _) <| fc (fm_getR _ _) <| fc fm_no <| fc fm_no <| fc (fm_iload _ _) <| fc fm_iald <| fc (fm_istore _ _) <| fc (fm_aload _ _) <| fc (fm_getR _ _) <| fc fm_no <| fc fm_no <| fc (fm_iload _ _) <| fc (fm_aload _ _) <| fc (fm_getR _ _) <| fc fm_no <| fc fm_no <| fc (fm_iload _ _) <| fc fm_iald <| fc fm_iast <| fc (fm_aload _ _) <| fc (fm_getR _ _) <| fc fm_no <| fc fm_no <| fc (fm_iload _ _) <| fc (fm_iload _ _) <| fc fm_iast <| fc fm_vret <| fc_0
-- 111: SecondOboeModel.nextSeating()Z
def k111 : List Step := [s_aload 0 1, s_getR 5 2, s_no, s_no, s_push 0 1, s_iald, s_istore 1 1, s_iload 1 1, s_push 2 1, s_bin iSu, s_istore 2 1, s_iload 2 1, s_iflt 38, s_no, s_no, s_aload 0 1, s_getR 5 12, s_no, s_no, s_iload 2 1, s_iald, s_aload 0 1, s_getR 5 12, s_no, s_no, s_iload 2 1, s_push 1 1, s_bin iAd, s_iald, s_icle 38, s_no, s_no, s_iinc 2 (-1), s_no, s_no, s_goto 11, s_no, s_no, s_iload 2 1, s_ifge 44, s_no, s_no, s_push 0 1, s_zret, s_iload 1 1, s_push 1 1, s_bin iSu, s_istore 3 1, s_aload 0 1, s_getR 5 12, s_no, s_no, s_iload 3 1, s_iald, s_aload 0 1, s_getR 5 12, s_no, s_no, s_iload 2 1, s_iald, s_icge 69, s_no, s_no, s_iinc 3 (-1), s_no, s_no, s_goto 48, s_no, s_no, s_aload 0 1, s_iload 2 1, s_iload 3 1, s_call 5 2 (s_scallV 110 3), s_no, s_no, s_push 0 1, s_istore 4 2, s_no, s_iload 2 1, s_push 1 1, s_bin iAd, s_iload 4 2, s_no, s_bin iAd, s_iload 1 1, s_push 1 1, s_bin iSu, s_iload 4 2, s_no, s_bin iSu, s_icge 115, s_no, s_no, s_aload 0 1, s_iload 2 1, s_push 1 1, s_bin iAd, s_iload 4 2, s_no, s_bin iAd, s_iload 1 1, s_push 1 1, s_bin iSu, s_iload 4 2, s_no, s_bin iSu, s_call 5 2 (s_scallV 110 3), s_no, s_no, s_iinc 4 1, s_no, s_no, s_goto 78, s_no, s_no, s_push 1 1, s_zret]
set_option maxRecDepth 100000 in
theorem f111 : ∀ s ∈ k111, Form s := fc (fm_aload _ _) <| fc (fm_getR _ _) <| fc fm_no <| fc fm_no <| fc (fm_push _ _) <| fc fm_iald <| fc (fm_istore _ _) <| fc (fm_iload _ _) <| fc (fm_push _ _) <| fc (fm_bin _) <| fc (fm_istore _ _) <| fc (fm_iload _ _) <| fc (fm_iflt _) <| fc fm_no <| fc fm_no <| fc (fm_aload _ _) <| fc (fm_getR _ _) <| fc fm_no <| fc fm_no <| fc (fm_iload _ _) <| fc fm_iald <| fc (fm_aload _ _) <| fc (fm_getR _ _) <| fc fm_no <| fc fm_no <| fc (fm_iload _ _) <| fc (fm_push _ _) <| fc (fm_bin _) <| fc fm_iald <| fc (fm_icle _) <| fc fm_no <| fc fm_no <| fc (fm_iinc _ _) <| fc fm_no <| fc fm_no <| fc (fm_goto _) <| fc fm_no <| fc fm_no <| fc (fm_iload _ _) <| fc (fm_ifge _) <| fc fm_no <| fc fm_no <| fc (fm_push _ _) <| fc fm_zret <| fc (fm_iload _ _) <| fc (fm_push _ _) <| fc (fm_bin _) <| fc (fm_istore _ _) <| fc (fm_aload _ _) <| fc (fm_getR _ _) <| fc fm_no <| fc fm_no <| fc (fm_iload _ _) <| fc fm_iald <| fc (fm_aload _ _) <| fc (fm_getR _ _) <| fc fm_no <| fc fm_no <| fc (fm_iload _ _) <| fc fm_iald <| fc (fm_icge _) <| fc fm_no <| fc fm_no <| fc (fm_iinc _ _) <| fc fm_no <| fc fm_no <| fc (fm_goto _) <| fc fm_no <| fc fm_no <| fc (fm_aload _ _) <| fc (fm_iload _ _) <| fc (fm_iload _ _) <| fc (fm_call _ _ _ (fm_scallV _ _)) <| fc fm_no <| fc fm_no <| fc (fm_push _ _) <| fc (fm_istore _ _) <| fc fm_no <| fc (fm_iload _ _) <| fc (fm_push _ _) <| fc (fm_bin _) <| fc (fm_iload _ _) <| fc fm_no <| fc (fm_bin _) <| fc (fm_iload _ _) <| fc (fm_push _ _) <| fc (fm_bin _) <| fc (fm_iload _ _) <| fc fm_no <| fc (fm_bin _) <| fc (fm_icge _) <| fc fm_no <| fc fm_no <| fc (fm_aload _ _) <| fc (fm_iload _ _) <| fc (fm_push _ _) <| fc (fm_bin _) <| fc (fm_iload _ _) <| fc fm_no <| fc (fm_bin _) <| fc (fm_iload _ _) <| fc (fm_push _ _) <| fc (fm_bin _) <| fc (fm_iload _ _) <| fc fm_no <| fc (fm_bin _) <| fc (fm_call _ _ _ (fm_scallV _ _)) <| fc fm_no <| fc fm_no <| fc (fm_iinc _ _) <| fc fm_no <| fc fm_no <| fc (fm_goto _) <| fc fm_no <| fc fm_no <| fc (fm_push _ _) <| fc fm_zret <| fc_0
-- 112: SecondOboeModel.best(I)I
def k112 : List Step := [s_iload 1 1, s_push (-1) 1, s_iceq 15, s_no, s_no, s_aload 0 1, s_iload 1 1, s_call 5 1 (s_scallI 80 2), s_no, s_no, s_ifne 15, s_no, s_no, s_push (-1) 1, s_iret, s_aload 0 1, s_call 5 0 (s_scallV 92 1), s_no, s_no, s_aload 0 1, s_call 5 0 (s_scallV 109 1), s_no, s_no, s_push (-1) 1, s_istore 2 1, s_push 0 1, s_istore 3 1, s_push 1 1, s_istore 4 2, s_no, s_iload 4 2, s_no, s_ifeq 77, s_no, s_no, s_aload 0 1, s_call 5 0 (s_scallI 95 1), s_no, s_no, s_pop, s_aload 0 1, s_getI 5 19, s_no, s_no, s_iload 2 1, s_icle 68, s_no, s_no, s_aload 0 1, s_getI 5 19, s_no, s_no, s_istore 2 1, s_iload 1 1, s_ifge 61, s_no, s_no, s_push 0 1, s_goto 67, s_no, s_no, s_aload 0 1, s_getR 5 12, s_no, s_no, s_iload 1 1, s_iald, s_istore 3 1, s_aload 0 1, s_call 5 0 (s_scallI 111 1), s_no, s_no, s_istore 4 2, s_no, s_goto 30, s_no, s_no, s_iload 1 1, s_push (-1) 1, s_icne 86, s_no, s_no, s_iload 2 1, s_goto 87, s_no, s_no, s_iload 3 1, s_iret]
set_option maxRecDepth 100000 in
theorem f112 : ∀ s ∈ k112, Form s := fc (fm_iload _ _) <| fc (fm_push _ _) <| fc (fm_iceq _) <| fc fm_no <| fc fm_no <| fc (fm_aload _ _) <| fc (fm_iload _ _) <| fc (fm_call _ _ _ (fm_scallI _ _)) <| fc fm_no <| fc fm_no <| fc (fm_ifne _) <| fc fm_no <| fc fm_no <| fc (fm_push _ _) <| fc fm_iret <| fc (fm_aload _ _) <| fc (fm_call _ _ _ (fm_scallV _ _)) <| fc fm_no <| fc fm_no <| fc (fm_aload _ _) <| fc (fm_call _ _ _ (fm_scallV _ _)) <| fc fm_no <| fc fm_no <| fc (fm_push _ _) <| fc (fm_istore _ _) <| fc (fm_push _ _) <| fc (fm_istore _ _) <| fc (fm_push _ _) <| fc (fm_istore _ _) <| fc fm_no <| fc (fm_iload _ _) <| fc fm_no <| fc (fm_ifeq _) <| fc fm_no <| fc fm_no <| fc (fm_aload _ _) <| fc (fm_call _ _ _ (fm_scallI _ _)) <| fc fm_no <| fc fm_no <| fc fm_pop <| fc (fm_aload _ _) <| fc (fm_getI _ _) <| fc fm_no <| fc fm_no <| fc (fm_iload _ _) <| fc (fm_icle _) <| fc fm_no <| fc fm_no <| fc (fm_aload _ _) <| fc (fm_getI _ _) <| fc fm_no <| fc fm_no <| fc (fm_istore _ _) <| fc (fm_iload _ _) <| fc (fm_ifge _) <| fc fm_no <| fc fm_no <| fc (fm_push _ _) <| fc (fm_goto _) <| fc fm_no <| fc fm_no <| fc (fm_aload _ _) <| fc (fm_getR _ _) <| fc fm_no <| fc fm_no <| fc (fm_iload _ _) <| fc fm_iald <| fc (fm_istore _ _) <| fc (fm_aload _ _) <| fc (fm_call _ _ _ (fm_scallI _ _)) <| fc fm_no <| fc fm_no <| fc (fm_istore _ _) <| fc fm_no <| fc (fm_goto _) <| fc fm_no <| fc fm_no <| fc (fm_iload _ _) <| fc (fm_push _ _) <| fc (fm_icne _) <| fc fm_no <| fc fm_no <| fc (fm_iload _ _) <| fc (fm_goto _) <| fc fm_no <| fc fm_no <| fc (fm_iload _ _) <| fc fm_iret <| fc_0
-- 113: SecondOboeModel.far()I
def k113 : List Step := [s_push 0 1, s_istore 1 1, s_push 0 1, s_istore 2 1, s_push 0 1, s_istore 3 1, s_iload 3 1, s_aload 0 1, s_getR 5 2, s_no, s_no, s_push 0 1, s_iald, s_icge 73, s_no, s_no, s_iload 2 1, s_iload 1 1, s_iload 3 1, s_bin bsr, s_push 1 1, s_bin ban, s_ifne 29, s_no, s_no, s_push 1 1, s_goto 30, s_no, s_no, s_push 0 1, s_bin iAd, s_istore 2 1, s_iload 3 1, s_istore 4 2, s_no, s_iload 1 1, s_iload 4 2, s_no, s_bin bsr, s_push 1 1, s_bin ban, s_ifne 67, s_no, s_no, s_iload 1 1, s_push 1 1, s_iload 4 2, s_no, s_bin bsl, s_bin bor, s_istore 1 1, s_aload 0 1, s_aload 0 1, s_getR 5 12, s_no, s_no, s_iload 4 2, s_no, s_iald, s_call 5 1 (s_scallI 96 2), s_no, s_no, s_istore 4 2, s_no, s_goto 35, s_no, s_no, s_iinc 3 1, s_no, s_no, s_goto 6, s_no, s_no, s_aload 0 1, s_getR 5 2, s_no, s_no, s_push 0 1, s_iald, s_iload 2 1, s_bin iSu, s_iret]
set_option maxRecDepth 100000 in
theorem f113 : ∀ s ∈ k113, Form s := fc (fm_push _ _) <| fc (fm_istore _ _) <| fc (fm_push _ _) <| fc (fm_istore _ _) <| fc (fm_push _ _) <| fc (fm_istore _ _) <| fc (fm_iload _ _) <| fc (fm_aload _ _) <| fc (fm_getR _ _) <| fc fm_no <| fc fm_no <| fc (fm_push _ _) <| fc fm_iald <| fc (fm_icge _) <| fc fm_no <| fc fm_no <| fc (fm_iload _ _) <| fc (fm_iload _ _) <| fc (fm_iload _ _) <| fc (fm_bin _) <| fc (fm_push _ _) <| fc (fm_bin _) <| fc (fm_ifne _) <| fc fm_no <| fc fm_no <| fc (fm_push _ _) <| fc (fm_goto _) <| fc fm_no <| fc fm_no <| fc (fm_push _ _) <| fc (fm_bin _) <| fc (fm_istore _ _) <| fc (fm_iload _ _) <| fc (fm_istore _ _) <| fc fm_no <| fc (fm_iload _ _) <| fc (fm_iload _ _) <| fc fm_no <| fc (fm_bin _) <| fc (fm_push _ _) <| fc (fm_bin _) <| fc (fm_ifne _) <| fc fm_no <| fc fm_no <| fc (fm_iload _ _) <| fc (fm_push _ _) <| fc (fm_iload _ _) <| fc fm_no <| fc (fm_bin _) <| fc (fm_bin _) <| fc (fm_istore _ _) <| fc (fm_aload _ _) <| fc (fm_aload _ _) <| fc (fm_getR _ _) <| fc fm_no <| fc fm_no <| fc (fm_iload _ _) <| fc fm_no <| fc fm_iald <| fc (fm_call _ _ _ (fm_scallI _ _)) <| fc fm_no <| fc fm_no <| fc (fm_istore _ _) <| fc fm_no <| fc (fm_goto _) <| fc fm_no <| fc fm_no <| fc (fm_iinc _ _) <| fc fm_no <| fc fm_no <| fc (fm_goto _) <| fc fm_no <| fc fm_no <| fc (fm_aload _ _) <| fc (fm_getR _ _) <| fc fm_no <| fc fm_no <| fc (fm_push _ _) <| fc fm_iald <| fc (fm_iload _ _) <| fc (fm_bin _) <| fc fm_iret <| fc_0
-- 114: SecondOboeModel.changes()I
def k114 : List Step := [s_aload 0 1, s_call 5 0 (s_scallV 92 1), s_no, s_no, s_aload 0 1, s_call 5 0 (s_scallV 109 1), s_no, s_no, s_push (-4) 2, s_no, s_istore 1 1, s_push 1 1, s_istore 2 1, s_iload 2 1, s_ifeq 60, s_no, s_no, s_aload 0 1, s_call 5 0 (s_scallI 95 1), s_no, s_no, s_aload 0 1, s_getR 5 2, s_no, s_no, s_push 1 1, s_iald, s_icne 52, s_no, s_no, s_aload 0 1, s_call 5 0 (s_scallI 113 1), s_no, s_no, s_istore 3 1, s_iload 1 1, s_push (-4) 2, s_no, s_iceq 46, s_no, s_no, s_iload 3 1, s_iload 1 1, s_icge 50, s_no, s_no, s_iload 3 1, s_goto 51, s_no, s_no, s_iload 1 1, s_istore 1 1, s_aload 0 1, s_call 5 0 (s_scallI 111 1), s_no, s_no, s_istore 2 1, s_goto 13, s_no, s_no, s_iload 1 1, s_iret]
set_option maxRecDepth 100000 in
theorem f114 : ∀ s ∈ k114, Form s := fc (fm_aload _ _) <| fc (fm_call _ _ _ (fm_scallV _ _)) <| fc fm_no <| fc fm_no <| fc (fm_aload _ _) <| fc (fm_call _ _ _ (fm_scallV _ _)) <| fc fm_no <| fc fm_no <| fc (fm_push _ _) <| fc fm_no <| fc (fm_istore _ _) <| fc (fm_push _ _) <| fc (fm_istore _ _) <| fc (fm_iload _ _) <| fc (fm_ifeq _) <| fc fm_no <| fc fm_no <| fc (fm_aload _ _) <| fc (fm_call _ _ _ (fm_scallI _ _)) <| fc fm_no <| fc fm_no <| fc (fm_aload _ _) <| fc (fm_getR _ _) <| fc fm_no <| fc fm_no <| fc (fm_push _ _) <| fc fm_iald <| fc (fm_icne _) <| fc fm_no <| fc fm_no <| fc (fm_aload _ _) <| fc (fm_call _ _ _ (fm_scallI _ _)) <| fc fm_no <| fc fm_no <| fc (fm_istore _ _) <| fc (fm_iload _ _) <| fc (fm_push _ _) <| fc fm_no <| fc (fm_iceq _) <| fc fm_no <| fc fm_no <| fc (fm_iload _ _) <| fc (fm_iload _ _) <| fc (fm_icge _) <| fc fm_no <| fc fm_no <| fc (fm_iload _ _) <| fc (fm_goto _) <| fc fm_no <| fc fm_no <| fc (fm_iload _ _) <| fc (fm_istore _ _) <| fc (fm_aload _ _) <| fc (fm_call _ _ _ (fm_scallI _ _)) <| fc fm_no <| fc fm_no <| fc (fm_istore _ _) <| fc (fm_goto _) <| fc fm_no <| fc fm_no <| fc (fm_iload _ _) <| fc fm_iret <| fc_0
-- 115: SecondOboeModel.help(I)I
def k115 : List Step := [s_iload 1 1, s_push 0 1, s_push 1 1, s_scallI 79 3, s_no, s_no, s_ifne 11, s_no, s_no, s_push (-1) 1, s_iret, s_aload 0 1, s_call 5 0 (s_scallV 92 1), s_no, s_no, s_aload 0 1, s_call 5 0 (s_scallI 95 1), s_no, s_no, s_pop, s_aload 0 1, s_getI 5 19, s_no, s_no, s_istore 2 1, s_push (-4) 2, s_no, s_istore 3 1, s_push 0 1, s_istore 4 2, s_no, s_iload 4 2, s_no, s_aload 0 1, s_getR 5 2, s_no, s_no, s_push 0 1, s_iald, s_icge 130, s_no, s_no, s_iload 4 2, s_no, s_push 1 1, s_bin iAd, s_istore 5 2, s_no, s_iload 5 2, s_no, s_aload 0 1, s_getR 5 2, s_no, s_no, s_push 0 1, s_iald, s_icge 124, s_no, s_no, s_aload 0 1, s_iload 4 2, s_no, s_iload 5 2, s_no, s_call 5 2 (s_scallV 110 3), s_no, s_no, s_aload 0 1, s_call 5 0 (s_scallI 95 1), s_no, s_no, s_pop, s_aload 0 1, s_getI 5 19, s_no, s_no, s_iload 2 1, s_icle 91, s_no, s_no, s_push 8 2, s_no, s_iload 4 2, s_no, s_bin iMu, s_iload 5 2, s_no, s_bin iAd, s_goto 92, s_no, s_no, s_iload 3 1, s_istore 3 1, s_aload 0 1, s_getI 5 19, s_no, s_no, s_iload 2 1, s_icle 108, s_no, s_no, s_aload 0 1, s_getI 5 19, s_no, s_no, s_goto 109, s_no, s_no, s_iload 2 1, s_istore 2 1, s_aload 0 1, s_iload 4 2, s_no, s_iload 5 2, s_no, s_call 5 2 (s_scallV 110 3), s_no, s_no, s_iinc 5 1, s_no, s_no, s_goto 48, s_no, s_no, s_iinc 4 1, s_no, s_no, s_goto 31, s_no, s_no, s_iload 1 1, s_ifeq 140, s_no, s_no, s_iload 3 1, s_push (-4) 2, s_no, s_icne 144, s_no, s_no, s_iload 3 1, s_goto 145, s_no, s_no, s_iload 2 1, s_iret]
set_option maxRecDepth 100000 in
theorem f115 : ∀ s ∈ k115, Form s := fc (fm_iload _ _) <| fc (fm_push _ _) <| fc (fm_push _ _) <| fc (fm_scallI _ _) <| fc fm_no <| fc fm_no <| fc (fm_ifne _) <| fc fm_no <| fc fm_no <| fc (fm_push _ _) <| fc fm_iret <| fc (fm_aload _ _) <| fc (fm_call _ _ _ (fm_scallV _ _)) <| fc fm_no <| fc fm_no <| fc (fm_aload _ _) <| fc (fm_call _ _ _ (fm_scallI _ _)) <| fc fm_no <| fc fm_no <| fc fm_pop <| fc (fm_aload _ _) <| fc (fm_getI _ _) <| fc fm_no <| fc fm_no <| fc (fm_istore _ _) <| fc (fm_push _ _) <| fc fm_no <| fc (fm_istore _ _) <| fc (fm_push _ _) <| fc (fm_istore _ _) <| fc fm_no <| fc (fm_iload _ _) <| fc fm_no <| fc (fm_aload _ _) <| fc (fm_getR _ _) <| fc fm_no <| fc fm_no <| fc (fm_push _ _) <| fc fm_iald <| fc (fm_icge _) <| fc fm_no <| fc fm_no <| fc (fm_iload _ _) <| fc fm_no <| fc (fm_push _ _) <| fc (fm_bin _) <| fc (fm_istore _ _) <| fc fm_no <| fc (fm_iload _ _) <| fc fm_no <| fc (fm_aload _ _) <| fc (fm_getR _ _) <| fc fm_no <| fc fm_no <| fc (fm_push _ _) <| fc fm_iald <| fc (fm_icge _) <| fc fm_no <| fc fm_no <| fc (fm_aload _ _) <| fc (fm_iload _ _) <| fc fm_no <| fc (fm_iload _ _) <| fc fm_no <| fc (fm_call _ _ _ (fm_scallV _ _)) <| fc fm_no <| fc fm_no <| fc (fm_aload _ _) <| fc (fm_call _ _ _ (fm_scallI _ _)) <| fc fm_no <| fc fm_no <| fc fm_pop <| fc (fm_aload _ _) <| fc (fm_getI _ _) <| fc fm_no <| fc fm_no <| fc (fm_iload _ _) <| fc (fm_icle _) <| fc fm_no <| fc fm_no <| fc (fm_push _ _) <| fc fm_no <| fc (fm_iload _ _) <| fc fm_no <| fc (fm_bin _) <| fc (fm_iload _ _) <| fc fm_no <| fc (fm_bin _) <| fc (fm_goto _) <| fc fm_no <| fc fm_no <| fc (fm_iload _ _) <| fc (fm_istore _ _) <| fc (fm_aload _ _) <| fc (fm_getI _ _) <| fc fm_no <| fc fm_no <| fc (fm_iload _ _) <| fc (fm_icle _) <| fc fm_no <| fc fm_no <| fc (fm_aload _ _) <| fc (fm_getI _ _) <| fc fm_no <| fc fm_no <| fc (fm_goto _) <| fc fm_no <| fc fm_no <| fc (fm_iload _ _) <| fc (fm_istore _ _) <| fc (fm_aload _ _) <| fc (fm_iload _ _) <| fc fm_no <| fc (fm_iload _ _) <| fc fm_no <| fc (fm_call _ _ _ (fm_scallV _ _)) <| fc fm_no <| fc fm_no <| fc (fm_iinc _ _) <| fc fm_no <| fc fm_no <| fc (fm_goto _) <| fc fm_no <| fc fm_no <| fc (fm_iinc _ _) <| fc fm_no <| fc fm_no <| fc (fm_goto _) <| fc fm_no <| fc fm_no <| fc (fm_iload _ _) <| fc (fm_ifeq _) <| fc fm_no <| fc fm_no <| fc (fm_iload _ _) <| fc (fm_push _ _) <| fc fm_no <| fc (fm_icne _) <| fc fm_no <| fc fm_no <| fc (fm_iload _ _) <| fc (fm_goto _) <| fc fm_no <| fc fm_no <| fc (fm_iload _ _) <| fc fm_iret <| fc_0
-- 116: SecondOboeModel.bribes(I)I
def k116 : List Step := [s_iload 1 1, s_push 0 1, s_push 1 1, s_scallI 79 3, s_no, s_no, s_ifne 11, s_no, s_no, s_push (-1) 1, s_iret, s_aload 0 1, s_call 5 0 (s_scallV 92 1), s_no, s_no, s_push 1 1, s_aload 0 1, s_getR 5 2, s_no, s_no, s_push 0 1, s_iald, s_bin bsl, s_push 1 1, s_bin iSu, s_istore 2 1, s_iload 2 1, s_istore 3 1, s_iload 3 1, s_iflt 75, s_no, s_no, s_aload 0 1, s_iload 3 1, s_putI 5 16, s_no, s_no, s_aload 0 1, s_iload 3 1, s_call 5 1 (s_scallI 106 2), s_no, s_no, s_aload 0 1, s_iload 2 1, s_call 5 1 (s_scallI 106 2), s_no, s_no, s_icgt 67, s_no, s_no, s_aload 0 1, s_call 5 0 (s_scallI 95 1), s_no, s_no, s_aload 0 1, s_getR 5 2, s_no, s_no, s_push 1 1, s_iald, s_icne 67, s_no, s_no, s_iload 3 1, s_goto 68, s_no, s_no, s_iload 2 1, s_istore 2 1, s_iinc 3 (-1), s_no, s_no, s_goto 28, s_no, s_no, s_iload 1 1, s_ifne 83, s_no, s_no, s_iload 2 1, s_goto 88, s_no, s_no, s_aload 0 1, s_iload 2 1, s_call 5 1 (s_scallI 106 2), s_no, s_no, s_iret]
set_option maxRecDepth 100000 in
theorem f116 : ∀ s ∈ k116, Form s := fc (fm_iload _ _) <| fc (fm_push _ _) <| fc (fm_push _ _) <| fc (fm_scallI _ _) <| fc fm_no <| fc fm_no <| fc (fm_ifne _) <| fc fm_no <| fc fm_no <| fc (fm_push _ _) <| fc fm_iret <| fc (fm_aload _ _) <| fc (fm_call _ _ _ (fm_scallV _ _)) <| fc fm_no <| fc fm_no <| fc (fm_push _ _) <| fc (fm_aload _ _) <| fc (fm_getR _ _) <| fc fm_no <| fc fm_no <| fc (fm_push _ _) <| fc fm_iald <| fc (fm_bin _) <| fc (fm_push _ _) <| fc (fm_bin _) <| fc (fm_istore _ _) <| fc (fm_iload _ _) <| fc (fm_istore _ _) <| fc (fm_iload _ _) <| fc (fm_iflt _) <| fc fm_no <| fc fm_no <| fc (fm_aload _ _) <| fc (fm_iload _ _) <| fc (fm_putI _ _ (by decide)) <| fc fm_no <| fc fm_no <| fc (fm_aload _ _) <| fc (fm_iload _ _) <| fc (fm_call _ _ _ (fm_scallI _ _)) <| fc fm_no <| fc fm_no <| fc (fm_aload _ _) <| fc (fm_iload _ _) <| fc (fm_call _ _ _ (fm_scallI _ _)) <| fc fm_no <| fc fm_no <| fc (fm_icgt _) <| fc fm_no <| fc fm_no <| fc (fm_aload _ _) <| fc (fm_call _ _ _ (fm_scallI _ _)) <| fc fm_no <| fc fm_no <| fc (fm_aload _ _) <| fc (fm_getR _ _) <| fc fm_no <| fc fm_no <| fc (fm_push _ _) <| fc fm_iald <| fc (fm_icne _) <| fc fm_no <| fc fm_no <| fc (fm_iload _ _) <| fc (fm_goto _) <| fc fm_no <| fc fm_no <| fc (fm_iload _ _) <| fc (fm_istore _ _) <| fc (fm_iinc _ _) <| fc fm_no <| fc fm_no <| fc (fm_goto _) <| fc fm_no <| fc fm_no <| fc (fm_iload _ _) <| fc (fm_ifne _) <| fc fm_no <| fc fm_no <| fc (fm_iload _ _) <| fc (fm_goto _) <| fc fm_no <| fc fm_no <| fc (fm_aload _ _) <| fc (fm_iload _ _) <| fc (fm_call _ _ _ (fm_scallI _ _)) <| fc fm_no <| fc fm_no <| fc fm_iret <| fc_0
-- 117: SecondOboeModel.rests()I
def k117 : List Step := [s_aload 0 1, s_call 5 0 (s_scallV 92 1), s_no, s_no, s_aload 0 1, s_call 5 0 (s_scallI 95 1), s_no, s_no, s_pop, s_push 0 1, s_istore 1 1, s_push 0 1, s_istore 2 1, s_iload 2 1, s_aload 0 1, s_getR 5 2, s_no, s_no, s_push 1 1, s_iald, s_icge 53, s_no, s_no, s_iload 1 1, s_aload 0 1, s_getR 5 2, s_no, s_no, s_push 25 2, s_no, s_iload 2 1, s_bin iAd, s_iald, s_aload 0 1, s_getR 5 15, s_no, s_no, s_iload 2 1, s_iald, s_push (-1) 1, s_bin bxo, s_bin ban, s_scallI 82 1, s_no, s_no, s_bin iAd, s_istore 1 1, s_iinc 2 1, s_no, s_no, s_goto 13, s_no, s_no, s_iload 1 1, s_iret]
set_option maxRecDepth 100000 in
theorem f117 : ∀ s ∈ k117, Form s := fc (fm_aload _ _) <| fc (fm_call _ _ _ (fm_scallV _ _)) <| fc fm_no <| fc fm_no <| fc (fm_aload _ _) <| fc (fm_call _ _ _ (fm_scallI _ _)) <| fc fm_no <| fc fm_no <| fc fm_pop <| fc (fm_push _ _) <| fc (fm_istore _ _) <| fc (fm_push _ _) <| fc (fm_istore _ _) <| fc (fm_iload _ _) <| fc (fm_aload _ _) <| fc (fm_getR _ _) <| fc fm_no <| fc fm_no <| fc (fm_push _ _) <| fc fm_iald <| fc (fm_icge _) <| fc fm_no <| fc fm_no <| fc (fm_iload _ _) <| fc (fm_aload _ _) <| fc (fm_getR _ _) <| fc fm_no <| fc fm_no <| fc (fm_push _ _) <| fc fm_no <| fc (fm_iload _ _) <| fc (fm_bin _) <| fc fm_iald <| fc (fm_aload _ _) <| fc (fm_getR _ _) <| fc fm_no <| fc fm_no <| fc (fm_iload _ _) <| fc fm_iald <| fc (fm_push _ _) <| fc (fm_bin _) <| fc (fm_bin _) <| fc (fm_scallI _ _) <| fc fm_no <| fc fm_no <| fc (fm_bin _) <| fc (fm_istore _ _) <| fc (fm_iinc _ _) <| fc fm_no <| fc fm_no <| fc (fm_goto _) <| fc fm_no <| fc fm_no <| fc (fm_iload _ _) <| fc fm_iret <| fc_0
-- 118: SecondOboeModel.silence(I)I
def k118 : List Step := [s_aload 0 1, s_iload 1 1, s_call 5 1 (s_scallI 80 2), s_no, s_no, s_ifne 10, s_no, s_no, s_push (-1) 1, s_iret, s_aload 0 1, s_call 5 0 (s_scallV 92 1), s_no, s_no, s_aload 0 1, s_call 5 0 (s_scallI 95 1), s_no, s_no, s_pop, s_aload 0 1, s_getI 5 19, s_no, s_no, s_istore 2 1, s_aload 0 1, s_push 1 1, s_iload 1 1, s_bin bsl, s_putI 5 18, s_no, s_no, s_aload 0 1, s_call 5 0 (s_scallI 95 1), s_no, s_no, s_pop, s_aload 0 1, s_push 0 1, s_putI 5 18, s_no, s_no, s_iload 2 1, s_aload 0 1, s_getI 5 19, s_no, s_no, s_bin iSu, s_push 100 2, s_no, s_bin iAd, s_iret]
set_option maxRecDepth 100000 in
theorem f118 : ∀ s ∈ k118, Form s := fc (fm_aload _ _) <| fc (fm_iload _ _) <| fc (fm_call _ _ _ (fm_scallI _ _)) <| fc fm_no <| fc fm_no <| fc (fm_ifne _) <| fc fm_no <| fc fm_no <| fc (fm_push _ _) <| fc fm_iret <| fc (fm_aload _ _) <| fc (fm_call _ _ _ (fm_scallV _ _)) <| fc fm_no <| fc fm_no <| fc (fm_aload _ _) <| fc (fm_call _ _ _ (fm_scallI _ _)) <| fc fm_no <| fc fm_no <| fc fm_pop <| fc (fm_aload _ _) <| fc (fm_getI _ _) <| fc fm_no <| fc fm_no <| fc (fm_istore _ _) <| fc (fm_aload _ _) <| fc (fm_push _ _) <| fc (fm_iload _ _) <| fc (fm_bin _) <| fc (fm_putI _ _ (by decide)) <| fc fm_no <| fc fm_no <| fc (fm_aload _ _) <| fc (fm_call _ _ _ (fm_scallI _ _)) <| fc fm_no <| fc fm_no <| fc fm_pop <| fc (fm_aload _ _) <| fc (fm_push _ _) <| fc (fm_putI _ _ (by decide)) <| fc fm_no <| fc fm_no <| fc (fm_iload _ _) <| fc (fm_aload _ _) <| fc (fm_getI _ _) <| fc fm_no <| fc fm_no <| fc (fm_bin _) <| fc (fm_push _ _) <| fc fm_no <| fc (fm_bin _) <| fc fm_iret <| fc_0
-- 119: SecondOboeModel.alike()I
def k119 : List Step := [s_aload 0 1, s_call 5 0 (s_scallV 92 1), s_no, s_no, s_aload 0 1, s_call 5 0 (s_scallI 95 1), s_no, s_no, s_pop, s_push 0 1, s_istore 1 1, s_iload 1 1, s_aload 0 1, s_getR 5 2, s_no, s_no, s_push 1 1, s_iald, s_icge 39, s_no, s_no, s_aload 0 1, s_getR 5 20, s_no, s_no, s_iload 1 1, s_aload 0 1, s_getR 5 15, s_no, s_no, s_iload 1 1, s_iald, s_iast, s_iinc 1 1, s_no, s_no, s_goto 11, s_no, s_no, s_aload 0 1, s_call 5 0 (s_scallV 109 1), s_no, s_no, s_push 0 1, s_istore 1 1, s_push 1 1, s_istore 2 1, s_iload 2 1, s_ifeq 125, s_no, s_no, s_aload 0 1, s_call 5 0 (s_scallI 95 1), s_no, s_no, s_pop, s_push 1 1, s_istore 3 1, s_push 0 1, s_istore 4 2, s_no, s_iload 4 2, s_no, s_aload 0 1, s_getR 5 2, s_no, s_no, s_push 1 1, s_iald, s_icge 105, s_no, s_no, s_iload 3 1, s_ifeq 97, s_no, s_no, s_aload 0 1, s_getR 5 15, s_no, s_no, s_iload 4 2, s_no, s_iald, s_aload 0 1, s_getR 5 20, s_no, s_no, s_iload 4 2, s_no, s_iald, s_icne 97, s_no, s_no, s_push 1 1, s_goto 98, s_no, s_no, s_push 0 1, s_istore 3 1, s_iinc 4 1, s_no, s_no, s_goto 61, s_no, s_no, s_iload 1 1, s_iload 3 1, s_ifeq 114, s_no, s_no, s_push 1 1, s_goto 115, s_no, s_no, s_push 0 1, s_bin iAd, s_istore 1 1, s_aload 0 1, s_call 5 0 (s_scallI 111 1), s_no, s_no, s_istore 2 1, s_goto 47, s_no, s_no, s_iload 1 1, s_iret]
set_option maxRecDepth 100000 in
theorem f119 : ∀ s ∈ k119, Form s := fc (fm_aload _ _) <| fc (fm_call _ _ _ (fm_scallV _ _)) <| fc fm_no <| fc fm_no <| fc (fm_aload _ _) <| fc (fm_call _ _ _ (fm_scallI _ _)) <| fc fm_no <| fc fm_no <| fc fm_pop <| fc (fm_push _ _) <| fc (fm_istore _ _) <| fc (fm_iload _ _) <| fc (fm_aload _ _) <| fc (fm_getR _ _) <| fc fm_no <| fc fm_no <| fc (fm_push _ _) <| fc fm_iald <| fc (fm_icge _) <| fc fm_no <| fc fm_no <| fc (fm_aload _ _) <| fc (fm_getR _ _) <| fc fm_no <| fc fm_no <| fc (fm_iload _ _) <| fc (fm_aload _ _) <| fc (fm_getR _ _) <| fc fm_no <| fc fm_no <| fc (fm_iload _ _) <| fc fm_iald <| fc fm_iast <| fc (fm_iinc _ _) <| fc fm_no <| fc fm_no <| fc (fm_goto _) <| fc fm_no <| fc fm_no <| fc (fm_aload _ _) <| fc (fm_call _ _ _ (fm_scallV _ _)) <| fc fm_no <| fc fm_no <| fc (fm_push _ _) <| fc (fm_istore _ _) <| fc (fm_push _ _) <| fc (fm_istore _ _) <| fc (fm_iload _ _) <| fc (fm_ifeq _) <| fc fm_no <| fc fm_no <| fc (fm_aload _ _) <| fc (fm_call _ _ _ (fm_scallI _ _)) <| fc fm_no <| fc fm_no <| fc fm_pop <| fc (fm_push _ _) <| fc (fm_istore _ _) <| fc (fm_push _ _) <| fc (fm_istore _ _) <| fc fm_no <| fc (fm_iload _ _) <| fc fm_no <| fc (fm_aload _ _) <| fc (fm_getR _ _) <| fc fm_no <| fc fm_no <| fc (fm_push _ _) <| fc fm_iald <| fc (fm_icge _) <| fc fm_no <| fc fm_no <| fc (fm_iload _ _) <| fc (fm_ifeq _) <| fc fm_no <| fc fm_no <| fc (fm_aload _ _) <| fc (fm_getR _ _) <| fc fm_no <| fc fm_no <| fc (fm_iload _ _) <| fc fm_no <| fc fm_iald <| fc (fm_aload _ _) <| fc (fm_getR _ _) <| fc fm_no <| fc fm_no <| fc (fm_iload _ _) <| fc fm_no <| fc fm_iald <| fc (fm_icne _) <| fc fm_no <| fc fm_no <| fc (fm_push _ _) <| fc (fm_goto _) <| fc fm_no <| fc fm_no <| fc (fm_push _ _) <| fc (fm_istore _ _) <| fc (fm_iinc _ _) <| fc fm_no <| fc fm_no <| fc (fm_goto _) <| fc fm_no <| fc fm_no <| fc (fm_iload _ _) <| fc (fm_iload _ _) <| fc (fm_ifeq _) <| fc fm_no <| fc fm_no <| fc (fm_push _ _) <| fc (fm_goto _) <| fc fm_no <| fc fm_no <| fc (fm_push _ _) <| fc (fm_bin _) <| fc (fm_istore _ _) <| fc (fm_aload _ _) <| fc (fm_call _ _ _ (fm_scallI _ _)) <| fc fm_no <| fc fm_no <| fc (fm_istore _ _) <| fc (fm_goto _) <| fc fm_no <| fc fm_no <| fc (fm_iload _ _) <| fc fm_iret <| fc_0
-- 120: SecondOboeModel.share(II)I
def k120 : List Step := [s_aload 0 1, s_call 5 0 (s_scallV 92 1), s_no, s_no, s_aload 0 1, s_call 5 0 (s_scallV 109 1), s_no, s_no, s_push 0 1, s_istore 3 1, s_push 0 1, s_istore 4 2, s_no, s_push 1 1, s_istore 5 2, s_no, s_iload 5 2, s_no, s_ifeq 78, s_no, s_no, s_aload 0 1, s_call 5 0 (s_scallI 95 1), s_no, s_no, s_istore 6 2, s_no, s_iload 3 1, s_iload 1 1, s_ifge 51, s_no, s_no, s_iload 6 2, s_no, s_aload 0 1, s_getR 5 2, s_no, s_no, s_push 1 1, s_iald, s_icne 47, s_no, s_no, s_push 1 1, s_goto 64, s_no, s_no, s_push 0 1, s_goto 64, s_no, s_no, s_aload 0 1, s_getI 5 19, s_no, s_no, s_iload 1 1, s_iclt 63, s_no, s_no, s_push 1 1, s_goto 64, s_no, s_no, s_push 0 1, s_bin iAd, s_istore 3 1, s_iinc 4 1, s_no, s_no, s_aload 0 1, s_call 5 0 (s_scallI 111 1), s_no, s_no, s_istore 5 2, s_no, s_goto 16, s_no, s_no, s_iload 3 1, s_istore 6 2, s_no, s_iload 4 2, s_no, s_istore 7 2, s_no, s_iload 7 2, s_no, s_ifle 108, s_no, s_no, s_iload 6 2, s_no, s_iload 7 2, s_no, s_dvd irm, s_istore 8 2, s_no, s_iload 7 2, s_no, s_istore 6 2, s_no, s_iload 8 2, s_no, s_istore 7 2, s_no, s_goto 85, s_no, s_no, s_iload 2 1, s_ifne 119, s_no, s_no, s_iload 3 1, s_iload 6 2, s_no, s_dvd idv, s_goto 124, s_no, s_no, s_iload 4 2, s_no, s_iload 6 2, s_no, s_dvd idv, s_iret]
set_option maxRecDepth 100000 in
theorem f120 : ∀ s ∈ k120, Form s := fc (fm_aload _ _) <| fc (fm_call _ _ _ (fm_scallV _ _)) <| fc fm_no <| fc fm_no <| fc (fm_aload _ _) <| fc (fm_call _ _ _ (fm_scallV _ _)) <| fc fm_no <| fc fm_no <| fc (fm_push _ _) <| fc (fm_istore _ _) <| fc (fm_push _ _) <| fc (fm_istore _ _) <| fc fm_no <| fc (fm_push _ _) <| fc (fm_istore _ _) <| fc fm_no <| fc (fm_iload _ _) <| fc fm_no <| fc (fm_ifeq _) <| fc fm_no <| fc fm_no <| fc (fm_aload _ _) <| fc (fm_call _ _ _ (fm_scallI _ _)) <| fc fm_no <| fc fm_no <| fc (fm_istore _ _) <| fc fm_no <| fc (fm_iload _ _) <| fc (fm_iload _ _) <| fc (fm_ifge _) <| fc fm_no <| fc fm_no <| fc (fm_iload _ _) <| fc fm_no <| fc (fm_aload _ _) <| fc (fm_getR _ _) <| fc fm_no <| fc fm_no <| fc (fm_push _ _) <| fc fm_iald <| fc (fm_icne _) <| fc fm_no <| fc fm_no <| fc (fm_push _ _) <| fc (fm_goto _) <| fc fm_no <| fc fm_no <| fc (fm_push _ _) <| fc (fm_goto _) <| fc fm_no <| fc fm_no <| fc (fm_aload _ _) <| fc (fm_getI _ _) <| fc fm_no <| fc fm_no <| fc (fm_iload _ _) <| fc (fm_iclt _) <| fc fm_no <| fc fm_no <| fc (fm_push _ _) <| fc (fm_goto _) <| fc fm_no <| fc fm_no <| fc (fm_push _ _) <| fc (fm_bin _) <| fc (fm_istore _ _) <| fc (fm_iinc _ _) <| fc fm_no <| fc fm_no <| fc (fm_aload _ _) <| fc (fm_call _ _ _ (fm_scallI _ _)) <| fc fm_no <| fc fm_no <| fc (fm_istore _ _) <| fc fm_no <| fc (fm_goto _) <| fc fm_no <| fc fm_no <| fc (fm_iload _ _) <| fc (fm_istore _ _) <| fc fm_no <| fc (fm_iload _ _) <| fc fm_no <| fc (fm_istore _ _) <| fc fm_no <| fc (fm_iload _ _) <| fc fm_no <| fc (fm_ifle _) <| fc fm_no <| fc fm_no <| fc (fm_iload _ _) <| fc fm_no <| fc (fm_iload _ _) <| fc fm_no <| fc (fm_dvd _) <| fc (fm_istore _ _) <| fc fm_no <| fc (fm_iload _ _) <| fc fm_no <| fc (fm_istore _ _) <| fc fm_no <| fc (fm_iload _ _) <| fc fm_no <| fc (fm_istore _ _) <| fc fm_no <| fc (fm_goto _) <| fc fm_no <| fc fm_no <| fc (fm_iload _ _) <| fc (fm_ifne _) <| fc fm_no <| fc fm_no <| fc (fm_iload _ _) <| fc (fm_iload _ _) <| fc fm_no <| fc (fm_dvd _) <| fc (fm_goto _) <| fc fm_no <| fc fm_no <| fc (fm_iload _ _) <| fc fm_no <| fc (fm_iload _ _) <| fc fm_no <| fc (fm_dvd _) <| fc fm_iret <| fc_0
-- 121: SecondOboeModel.odds(I)I
def k121 : List Step := [s_iload 1 1, s_push 0 1, s_push 1 1, s_scallI 79 3, s_no, s_no, s_ifeq 18, s_no, s_no, s_aload 0 1, s_push (-1) 1, s_iload 1 1, s_call 5 2 (s_scallI 120 3), s_no, s_no, s_goto 19, s_no, s_no, s_push (-1) 1, s_iret]
set_option maxRecDepth 100000 in
theorem f121 : ∀ s ∈ k121, Form s := fc (fm_iload _ _) <| fc (fm_push _ _) <| fc (fm_push _ _) <| fc (fm_scallI _ _) <| fc fm_no <| fc fm_no <| fc (fm_ifeq _) <| fc fm_no <| fc fm_no <| fc (fm_aload _ _) <| fc (fm_push _ _) <| fc (fm_iload _ _) <| fc (fm_call _ _ _ (fm_scallI _ _)) <| fc fm_no <| fc fm_no <| fc (fm_goto _) <| fc fm_no <| fc fm_no <| fc (fm_push _ _) <| fc fm_iret <| fc_0
-- 122: SecondOboeModel.atLeast(II)I
def k122 : List Step := [s_iload 1 1, s_push 0 1, s_push 56 2, s_no, s_scallI 79 3, s_no, s_no, s_ifeq 28, s_no, s_no, s_iload 2 1, s_push 0 1, s_push 1 1, s_scallI 79 3, s_no, s_no, s_ifeq 28, s_no, s_no, s_aload 0 1, s_iload 1 1, s_iload 2 1, s_call 5 2 (s_scallI 120 3), s_no, s_no, s_goto 29, s_no, s_no, s_push (-1) 1, s_iret]
set_option maxRecDepth 100000 in
theorem f122 : ∀ s ∈ k122, Form s := fc (fm_iload _ _) <| fc (fm_push _ _) <| fc (fm_push _ _) <| fc fm_no <| fc (fm_scallI _ _) <| fc fm_no <| fc fm_no <| fc (fm_ifeq _) <| fc fm_no <| fc fm_no <| fc (fm_iload _ _) <| fc (fm_push _ _) <| fc (fm_push _ _) <| fc (fm_scallI _ _) <| fc fm_no <| fc fm_no <| fc (fm_ifeq _) <| fc fm_no <| fc fm_no <| fc (fm_aload _ _) <| fc (fm_iload _ _) <| fc (fm_iload _ _) <| fc (fm_call _ _ _ (fm_scallI _ _)) <| fc fm_no <| fc fm_no <| fc (fm_goto _) <| fc fm_no <| fc fm_no <| fc (fm_push _ _) <| fc fm_iret <| fc_0
-- 123: SecondOboeModel.heard(III)I
def k123 : List Step := [s_aload 0 1, s_iload 1 1, s_call 5 1 (s_scallI 80 2), s_no, s_no, s_ifeq 25, s_no, s_no, s_aload 0 1, s_iload 2 1, s_call 5 1 (s_scallI 81 2), s_no, s_no, s_ifeq 25, s_no, s_no, s_iload 3 1, s_push 0 1, s_push 1 1, s_scallI 79 3, s_no, s_no, s_ifne 27, s_no, s_no, s_push (-1) 1, s_iret, s_aload 0 1, s_getI 5 10, s_no, s_no, s_push 8 2, s_no, s_icne 39, s_no, s_no, s_push (-3) 2, s_no, s_iret, s_aload 0 1, s_getR 5 9, s_no, s_no, s_aload 0 1, s_getI 5 10, s_no, s_no, s_push 100 2, s_no, s_iload 1 1, s_bin iMu, s_push 10 2, s_no, s_iload 2 1, s_bin iMu, s_bin iAd, s_iload 3 1, s_bin iAd, s_iast, s_aload 0 1, s_dup, s_getI 5 10, s_no, s_no, s_push 1 1, s_bin iAd, s_putI 5 10, s_no, s_no, s_aload 0 1, s_getI 5 10, s_no, s_no, s_iret]
set_option maxRecDepth 100000 in
theorem f123 : ∀ s ∈ k123, Form s := fc (fm_aload _ _) <| fc (fm_iload _ _) <| fc (fm_call _ _ _ (fm_scallI _ _)) <| fc fm_no <| fc fm_no <| fc (fm_ifeq _) <| fc fm_no <| fc fm_no <| fc (fm_aload _ _) <| fc (fm_iload _ _) <| fc (fm_call _ _ _ (fm_scallI _ _)) <| fc fm_no <| fc fm_no <| fc (fm_ifeq _) <| fc fm_no <| fc fm_no <| fc (fm_iload _ _) <| fc (fm_push _ _) <| fc (fm_push _ _) <| fc (fm_scallI _ _) <| fc fm_no <| fc fm_no <| fc (fm_ifne _) <| fc fm_no <| fc fm_no <| fc (fm_push _ _) <| fc fm_iret <| fc (fm_aload _ _) <| fc (fm_getI _ _) <| fc fm_no <| fc fm_no <| fc (fm_push _ _) <| fc fm_no <| fc (fm_icne _) <| fc fm_no <| fc fm_no <| fc (fm_push _ _) <| fc fm_no <| fc fm_iret <| fc (fm_aload _ _) <| fc (fm_getR _ _) <| fc fm_no <| fc fm_no <| fc (fm_aload _ _) <| fc (fm_getI _ _) <| fc fm_no <| fc fm_no <| fc (fm_push _ _) <| fc fm_no <| fc (fm_iload _ _) <| fc (fm_bin _) <| fc (fm_push _ _) <| fc fm_no <| fc (fm_iload _ _) <| fc (fm_bin _) <| fc (fm_bin _) <| fc (fm_iload _ _) <| fc (fm_bin _) <| fc fm_iast <| fc (fm_aload _ _) <| fc fm_dup <| fc (fm_getI _ _) <| fc fm_no <| fc fm_no <| fc (fm_push _ _) <| fc (fm_bin _) <| fc (fm_putI _ _ (by decide)) <| fc fm_no <| fc fm_no <| fc (fm_aload _ _) <| fc (fm_getI _ _) <| fc fm_no <| fc fm_no <| fc fm_iret <| fc_0
-- 124: SecondOboeModel.forget()I
def k124 : List Step := [s_aload 0 1, s_getI 5 10, s_no, s_no, s_istore 1 1, s_aload 0 1, s_push 0 1, s_putI 5 10, s_no, s_no, s_iload 1 1, s_iret]
set_option maxRecDepth 100000 in
theorem f124 : ∀ s ∈ k124, Form s := fc (fm_aload _ _) <| fc (fm_getI _ _) <| fc fm_no <| fc fm_no <| fc (fm_istore _ _) <| fc (fm_aload _ _) <| fc (fm_push _ _) <| fc (fm_putI _ _ (by decide)) <| fc fm_no <| fc fm_no <| fc (fm_iload _ _) <| fc fm_iret <| fc_0
-- 125: SecondOboeModel.kinds(I)I
def k125 : List Step := [s_aload 0 1, s_iload 1 1, s_call 5 1 (s_scallI 80 2), s_no, s_no, s_ifne 10, s_no, s_no, s_push (-1) 1, s_iret, s_aload 0 1, s_call 5 0 (s_scallV 92 1), s_no, s_no, s_aload 0 1, s_dup, s_getI 5 16, s_no, s_no, s_push 1 1, s_iload 1 1, s_bin bsl, s_push (-1) 1, s_bin bxo, s_bin ban, s_putI 5 16, s_no, s_no, s_push 0 1, s_istore 2 1, s_push 0 1, s_istore 3 1, s_iload 3 1, s_push 4 1, s_icge 152, s_no, s_no, s_aload 0 1, s_getR 5 14, s_no, s_no, s_iload 1 1, s_iload 3 1, s_iast, s_aload 0 1, s_call 5 0 (s_scallI 95 1), s_no, s_no, s_pop, s_push 1 1, s_istore 4 2, s_no, s_push 0 1, s_istore 5 2, s_no, s_iload 5 2, s_no, s_aload 0 1, s_getI 5 10, s_no, s_no, s_icge 131, s_no, s_no, s_iload 4 2, s_no, s_ifeq 122, s_no, s_no, s_aload 0 1, s_getR 5 9, s_no, s_no, s_iload 5 2, s_no, s_iald, s_push 100 2, s_no, s_dvd idv, s_iload 1 1, s_icne 118, s_no, s_no, s_aload 0 1, s_getR 5 15, s_no, s_no, s_aload 0 1, s_getR 5 9, s_no, s_no, s_iload 5 2, s_no, s_iald, s_push 10 2, s_no, s_dvd idv, s_push 10 2, s_no, s_dvd irm, s_iald, s_iload 1 1, s_bin bsr, s_push 1 1, s_bin ban, s_aload 0 1, s_getR 5 9, s_no, s_no, s_iload 5 2, s_no, s_iald, s_push 10 2, s_no, s_dvd irm, s_icne 122, s_no, s_no, s_push 1 1, s_goto 123, s_no, s_no, s_push 0 1, s_istore 4 2, s_no, s_iinc 5 1, s_no, s_no, s_goto 55, s_no, s_no, s_iload 2 1, s_iload 4 2, s_no, s_ifeq 143, s_no, s_no, s_push 1 1, s_iload 3 1, s_bin bsl, s_goto 144, s_no, s_no, s_push 0 1, s_bin bor, s_istore 2 1, s_iinc 3 1, s_no, s_no, s_goto 32, s_no, s_no, s_iload 2 1, s_iret]
set_option maxRecDepth 100000 in
theorem f125 : ∀ s ∈ k125, Form s := fc (fm_aload _ _) <| fc (fm_iload _ _) <| fc (fm_call _ _ _ (fm_scallI _ _)) <| fc fm_no <| fc fm_no <| fc (fm_ifne _) <| fc fm_no <| fc fm_no <| fc (fm_push _ _) <| fc fm_iret <| fc (fm_aload _ _) <| fc (fm_call _ _ _ (fm_scallV _ _)) <| fc fm_no <| fc fm_no <| fc (fm_aload _ _) <| fc fm_dup <| fc (fm_getI _ _) <| fc fm_no <| fc fm_no <| fc (fm_push _ _) <| fc (fm_iload _ _) <| fc (fm_bin _) <| fc (fm_push _ _) <| fc (fm_bin _) <| fc (fm_bin _) <| fc (fm_putI _ _ (by decide)) <| fc fm_no <| fc fm_no <| fc (fm_push _ _) <| fc (fm_istore _ _) <| fc (fm_push _ _) <| fc (fm_istore _ _) <| fc (fm_iload _ _) <| fc (fm_push _ _) <| fc (fm_icge _) <| fc fm_no <| fc fm_no <| fc (fm_aload _ _) <| fc (fm_getR _ _) <| fc fm_no <| fc fm_no <| fc (fm_iload _ _) <| fc (fm_iload _ _) <| fc fm_iast <| fc (fm_aload _ _) <| fc (fm_call _ _ _ (fm_scallI _ _)) <| fc fm_no <| fc fm_no <| fc fm_pop <| fc (fm_push _ _) <| fc (fm_istore _ _) <| fc fm_no <| fc (fm_push _ _) <| fc (fm_istore _ _) <| fc fm_no <| fc (fm_iload _ _) <| fc fm_no <| fc (fm_aload _ _) <| fc (fm_getI _ _) <| fc fm_no <| fc fm_no <| fc (fm_icge _) <| fc fm_no <| fc fm_no <| fc (fm_iload _ _) <| fc fm_no <| fc (fm_ifeq _) <| fc fm_no <| fc fm_no <| fc (fm_aload _ _) <| fc (fm_getR _ _) <| fc fm_no <| fc fm_no <| fc (fm_iload _ _) <| fc fm_no <| fc fm_iald <| fc (fm_push _ _) <| fc fm_no <| fc (fm_dvd _) <| fc (fm_iload _ _) <| fc (fm_icne _) <| fc fm_no <| fc fm_no <| fc (fm_aload _ _) <| fc (fm_getR _ _) <| fc fm_no <| fc fm_no <| fc (fm_aload _ _) <| fc (fm_getR _ _) <| fc fm_no <| fc fm_no <| fc (fm_iload _ _) <| fc fm_no <| fc fm_iald <| fc (fm_push _ _) <| fc fm_no <| fc (fm_dvd _) <| fc (fm_push _ _) <| fc fm_no <| fc (fm_dvd _) <| fc fm_iald <| fc (fm_iload _ _) <| fc (fm_bin _) <| fc (fm_push _ _) <| fc (fm_bin _) <| fc (fm_aload _ _) <| fc (fm_getR _ _) <| fc fm_no <| fc fm_no <| fc (fm_iload _ _) <| fc fm_no <| fc fm_iald <| fc (fm_push _ _) <| fc fm_no <| fc (fm_dvd _) <| fc (fm_icne _) <| fc fm_no <| fc fm_no <| fc (fm_push _ _) <| fc (fm_goto _) <| fc fm_no <| fc fm_no <| fc (fm_push _ _) <| fc (fm_istore _ _) <| fc fm_no <| fc (fm_iinc _ _) <| fc fm_no <| fc fm_no <| fc (fm_goto _) <| fc fm_no <| fc fm_no <| fc (fm_iload _ _) <| fc (fm_iload _ _) <| fc fm_no <| fc (fm_ifeq _) <| fc fm_no <| fc fm_no <| fc (fm_push _ _) <| fc (fm_iload _ _) <| fc (fm_bin _) <| fc (fm_goto _) <| fc fm_no <| fc fm_no <| fc (fm_push _ _) <| fc (fm_bin _) <| fc (fm_istore _ _) <| fc (fm_iinc _ _) <| fc fm_no <| fc fm_no <| fc (fm_goto _) <| fc fm_no <| fc fm_no <| fc (fm_iload _ _) <| fc fm_iret <| fc_0
-- 126: SecondOboeModel.hall(I)I
def k126 : List Step := [s_iload 1 1, s_push 0 1, s_aload 0 1, s_getR 5 2, s_no, s_no, s_push 0 1, s_iald, s_push 2 1, s_bin iSu, s_scallI 79 3, s_no, s_no, s_ifne 24, s_no, s_no, s_iload 1 1, s_push 9 2, s_no, s_iceq 24, s_no, s_no, s_push (-1) 1, s_iret, s_aload 0 1, s_call 5 0 (s_scallV 92 1), s_no, s_no, s_aload 0 1, s_iload 1 1, s_push 9 2, s_no, s_icne 39, s_no, s_no, s_push 0 1, s_goto 42, s_no, s_no, s_push 1 1, s_iload 1 1, s_bin bsl, s_putI 5 17, s_no, s_no, s_aload 0 1, s_call 5 0 (s_scallI 95 1), s_no, s_no, s_pop, s_aload 0 1, s_getI 5 19, s_no, s_no, s_iret]
set_option maxRecDepth 100000 in
theorem f126 : ∀ s ∈ k126, Form s := fc (fm_iload _ _) <| fc (fm_push _ _) <| fc (fm_aload _ _) <| fc (fm_getR _ _) <| fc fm_no <| fc fm_no <| fc (fm_push _ _) <| fc fm_iald <| fc (fm_push _ _) <| fc (fm_bin _) <| fc (fm_scallI _ _) <| fc fm_no <| fc fm_no <| fc (fm_ifne _) <| fc fm_no <| fc fm_no <| fc (fm_iload _ _) <| fc (fm_push _ _) <| fc fm_no <| fc (fm_iceq _) <| fc fm_no <| fc fm_no <| fc (fm_push _ _) <| fc fm_iret <| fc (fm_aload _ _) <| fc (fm_call _ _ _ (fm_scallV _ _)) <| fc fm_no <| fc fm_no <| fc (fm_aload _ _) <| fc (fm_iload _ _) <| fc (fm_push _ _) <| fc fm_no <| fc (fm_icne _) <| fc fm_no <| fc fm_no <| fc (fm_push _ _) <| fc (fm_goto _) <| fc fm_no <| fc fm_no <| fc (fm_push _ _) <| fc (fm_iload _ _) <| fc (fm_bin _) <| fc (fm_putI _ _ (by decide)) <| fc fm_no <| fc fm_no <| fc (fm_aload _ _) <| fc (fm_call _ _ _ (fm_scallI _ _)) <| fc fm_no <| fc fm_no <| fc fm_pop <| fc (fm_aload _ _) <| fc (fm_getI _ _) <| fc fm_no <| fc fm_no <| fc fm_iret <| fc_0
-- 127: SecondOboeModel.tour(III)I
def k127 : List Step := [s_iload 1 1, s_push 0 1, s_push 9999 3, s_no, s_no, s_scallI 79 3, s_no, s_no, s_ifeq 30, s_no, s_no, s_iload 2 1, s_push 1 1, s_push 20 2, s_no, s_scallI 79 3, s_no, s_no, s_ifeq 30, s_no, s_no, s_iload 3 1, s_push 0 1, s_push 1 1, s_scallI 79 3, s_no, s_no, s_ifne 32, s_no, s_no, s_push (-1) 1, s_iret, s_aload 0 1, s_call 5 0 (s_scallV 92 1), s_no, s_no, s_push 0 1, s_istore 4 2, s_no, s_push 0 1, s_istore 5 2, s_no, s_push 0 1, s_istore 6 2, s_no, s_iload 6 2, s_no, s_iload 2 1, s_icge 157, s_no, s_no, s_lpush 7919 3, s_no, s_no, s_iload 1 1, s_i2l, s_lbin iMu, s_lpush 6151 3, s_no, s_no, s_iload 6 2, s_no, s_i2l, s_lbin iMu, s_lbin iAd, s_lpush 1 1, s_lbin iAd, s_lstore 7 2, s_no, s_lload 7 2, s_no, s_lload 7 2, s_no, s_lbin iMu, s_lpush 65521 3, s_no, s_no, s_ldvd lrm, s_l2i, s_push 4 1, s_dvd idv, s_istore 9 2, s_no, s_aload 0 1, s_iload 9 2, s_no, s_aload 0 1, s_getR 5 2, s_no, s_no, s_push 0 1, s_iald, s_dvd irm, s_iload 9 2, s_no, s_push 8 2, s_no, s_dvd idv, s_aload 0 1, s_getR 5 2, s_no, s_no, s_push 0 1, s_iald, s_dvd irm, s_call 5 2 (s_scallV 110 3), s_no, s_no, s_iload 4 2, s_no, s_aload 0 1, s_call 5 0 (s_scallI 95 1), s_no, s_no, s_aload 0 1, s_getR 5 2, s_no, s_no, s_push 1 1, s_iald, s_icne 127, s_no, s_no, s_push 1 1, s_goto 128, s_no, s_no, s_push 0 1, s_bin iAd, s_istore 4 2, s_no, s_aload 0 1, s_getI 5 19, s_no, s_no, s_iload 5 2, s_no, s_icle 147, s_no, s_no, s_aload 0 1, s_getI 5 19, s_no, s_no, s_goto 149, s_no, s_no, s_iload 5 2, s_no, s_istore 5 2, s_no, s_iinc 6 1, s_no, s_no, s_goto 45, s_no, s_no, s_iload 3 1, s_ifne 166, s_no, s_no, s_iload 4 2, s_no, s_goto 168, s_no, s_no, s_iload 5 2, s_no, s_iret]
set_option maxRecDepth 100000 in
theorem f127 : ∀ s ∈ k127, Form s := fc (fm_iload _ _) <| fc (fm_push _ _) <| fc (fm_push _ _) <| fc fm_no <| fc fm_no <| fc (fm_scallI _ _) <| fc fm_no <| fc fm_no <| fc (fm_ifeq _) <| fc fm_no <| fc fm_no <| fc (fm_iload _ _) <| fc (fm_push _ _) <| fc (fm_push _ _) <| fc fm_no <| fc (fm_scallI _ _) <| fc fm_no <| fc fm_no <| fc (fm_ifeq _) <| fc fm_no <| fc fm_no <| fc (fm_iload _ _) <| fc (fm_push _ _) <| fc (fm_push _ _) <| fc (fm_scallI _ _) <| fc fm_no <| fc fm_no <| fc (fm_ifne _) <| fc fm_no <| fc fm_no <| fc (fm_push _ _) <| fc fm_iret <| fc (fm_aload _ _) <| fc (fm_call _ _ _ (fm_scallV _ _)) <| fc fm_no <| fc fm_no <| fc (fm_push _ _) <| fc (fm_istore _ _) <| fc fm_no <| fc (fm_push _ _) <| fc (fm_istore _ _) <| fc fm_no <| fc (fm_push _ _) <| fc (fm_istore _ _) <| fc fm_no <| fc (fm_iload _ _) <| fc fm_no <| fc (fm_iload _ _) <| fc (fm_icge _) <| fc fm_no <| fc fm_no <| fc (fm_lpush _ _) <| fc fm_no <| fc fm_no <| fc (fm_iload _ _) <| fc fm_i2l <| fc (fm_lbin _) <| fc (fm_lpush _ _) <| fc fm_no <| fc fm_no <| fc (fm_iload _ _) <| fc fm_no <| fc fm_i2l <| fc (fm_lbin _) <| fc (fm_lbin _) <| fc (fm_lpush _ _) <| fc (fm_lbin _) <| fc (fm_lstore _ _) <| fc fm_no <| fc (fm_lload _ _) <| fc fm_no <| fc (fm_lload _ _) <| fc fm_no <| fc (fm_lbin _) <| fc (fm_lpush _ _) <| fc fm_no <| fc fm_no <| fc (fm_ldvd _) <| fc fm_l2i <| fc (fm_push _ _) <| fc (fm_dvd _) <| fc (fm_istore _ _) <| fc fm_no <| fc (fm_aload _ _) <| fc (fm_iload _ _) <| fc fm_no <| fc (fm_aload _ _) <| fc (fm_getR _ _) <| fc fm_no <| fc fm_no <| fc (fm_push _ _) <| fc fm_iald <| fc (fm_dvd _) <| fc (fm_iload _ _) <| fc fm_no <| fc (fm_push _ _) <| fc fm_no <| fc (fm_dvd _) <| fc (fm_aload _ _) <| fc (fm_getR _ _) <| fc fm_no <| fc fm_no <| fc (fm_push _ _) <| fc fm_iald <| fc (fm_dvd _) <| fc (fm_call _ _ _ (fm_scallV _ _)) <| fc fm_no <| fc fm_no <| fc (fm_iload _ _) <| fc fm_no <| fc (fm_aload _ _) <| fc (fm_call _ _ _ (fm_scallI _ _)) <| fc fm_no <| fc fm_no <| fc (fm_aload _ _) <| fc (fm_getR _ _) <| fc fm_no <| fc fm_no <| fc (fm_push _ _) <| fc fm_iald <| fc (fm_icne _) <| fc fm_no <| fc fm_no <| fc (fm_push _ _) <| fc (fm_goto _) <| fc fm_no <| fc fm_no <| fc (fm_push _ _) <| fc (fm_bin _) <| fc (fm_istore _ _) <| fc fm_no <| fc (fm_aload _ _) <| fc (fm_getI _ _) <| fc fm_no <| fc fm_no <| fc (fm_iload _ _) <| fc fm_no <| fc (fm_icle _) <| fc fm_no <| fc fm_no <| fc (fm_aload _ _) <| fc (fm_getI _ _) <| fc fm_no <| fc fm_no <| fc (fm_goto _) <| fc fm_no <| fc fm_no <| fc (fm_iload _ _) <| fc fm_no <| fc (fm_istore _ _) <| fc fm_no <| fc (fm_iinc _ _) <| fc fm_no <| fc fm_no <| fc (fm_goto _) <| fc fm_no <| fc fm_no <| fc (fm_iload _ _) <| fc (fm_ifne _) <| fc fm_no <| fc fm_no <| fc (fm_iload _ _) <| fc fm_no <| fc (fm_goto _) <| fc fm_no <| fc fm_no <| fc (fm_iload _ _) <| fc fm_no <| fc fm_iret <| fc_0
-- 128: SecondOboeModel.keep()I
def k128 : List Step := [s_aload 0 1, s_getI 5 8, s_no, s_no, s_push 2 1, s_icne 11, s_no, s_no, s_push (-3) 2, s_no, s_iret, s_push 0 1, s_istore 1 1, s_iload 1 1, s_push 8 2, s_no, s_icge 45, s_no, s_no, s_aload 0 1, s_getR 5 7, s_no, s_no, s_push 8 2, s_no, s_aload 0 1, s_getI 5 8, s_no, s_no, s_bin iMu, s_iload 1 1, s_bin iAd, s_aload 0 1, s_getR 5 4, s_no, s_no, s_iload 1 1, s_iald, s_iast, s_iinc 1 1, s_no, s_no, s_goto 13, s_no, s_no, s_aload 0 1, s_dup, s_getI 5 8, s_no, s_no, s_push 1 1, s_bin iAd, s_putI 5 8, s_no, s_no, s_aload 0 1, s_getI 5 8, s_no, s_no, s_iret]
set_option maxRecDepth 100000 in
theorem f128 : ∀ s ∈ k128, Form s := fc (fm_aload _ _) <| fc (fm_getI _ _) <| fc fm_no <| fc fm_no <| fc (fm_push _ _) <| fc (fm_icne _) <| fc fm_no <| fc fm_no <| fc (fm_push _ _) <| fc fm_no <| fc fm_iret <| fc (fm_push _ _) <| fc (fm_istore _ _) <| fc (fm_iload _ _) <| fc (fm_push _ _) <| fc fm_no <| fc (fm_icge _) <| fc fm_no <| fc fm_no <| fc (fm_aload _ _) <| fc (fm_getR _ _) <| fc fm_no <| fc fm_no <| fc (fm_push _ _) <| fc fm_no <| fc (fm_aload _ _) <| fc (fm_getI _ _) <| fc fm_no <| fc fm_no <| fc (fm_bin _) <| fc (fm_iload _ _) <| fc (fm_bin _) <| fc (fm_aload _ _) <| fc (fm_getR _ _) <| fc fm_no <| fc fm_no <| fc (fm_iload _ _) <| fc fm_iald <| fc fm_iast <| fc (fm_iinc _ _) <| fc fm_no <| fc fm_no <| fc (fm_goto _) <| fc fm_no <| fc fm_no <| fc (fm_aload _ _) <| fc fm_dup <| fc (fm_getI _ _) <| fc fm_no <| fc fm_no <| fc (fm_push _ _) <| fc (fm_bin _) <| fc (fm_putI _ _ (by decide)) <| fc fm_no <| fc fm_no <| fc (fm_aload _ _) <| fc (fm_getI _ _) <| fc fm_no <| fc fm_no <| fc fm_iret <| fc_0
-- 129: SecondOboeModel.back()I
def k129 : List Step := [s_aload 0 1, s_getI 5 8, s_no, s_no, s_ifne 10, s_no, s_no, s_push (-2) 2, s_no, s_iret, s_aload 0 1, s_dup, s_getI 5 8, s_no, s_no, s_push 1 1, s_bin iSu, s_putI 5 8, s_no, s_no, s_push 0 1, s_istore 1 1, s_iload 1 1, s_push 8 2, s_no, s_icge 54, s_no, s_no, s_aload 0 1, s_getR 5 4, s_no, s_no, s_iload 1 1, s_aload 0 1, s_getR 5 7, s_no, s_no, s_push 8 2, s_no, s_aload 0 1, s_getI 5 8, s_no, s_no, s_bin iMu, s_iload 1 1, s_bin iAd, s_iald, s_iast, s_iinc 1 1, s_no, s_no, s_goto 22, s_no, s_no, s_aload 0 1, s_push 0 1, s_putI 5 6, s_no, s_no, s_aload 0 1, s_getI 5 8, s_no, s_no, s_iret]
set_option maxRecDepth 100000 in
theorem f129 : ∀ s ∈ k129, Form s := fc (fm_aload _ _) <| fc (fm_getI _ _) <| fc fm_no <| fc fm_no <| fc (fm_ifne _) <| fc fm_no <| fc fm_no <| fc (fm_push _ _) <| fc fm_no <| fc fm_iret <| fc (fm_aload _ _) <| fc fm_dup <| fc (fm_getI _ _) <| fc fm_no <| fc fm_no <| fc (fm_push _ _) <| fc (fm_bin _) <| fc (fm_putI _ _ (by decide)) <| fc fm_no <| fc fm_no <| fc (fm_push _ _) <| fc (fm_istore _ _) <| fc (fm_iload _ _) <| fc (fm_push _ _) <| fc fm_no <| fc (fm_icge _) <| fc fm_no <| fc fm_no <| fc (fm_aload _ _) <| fc (fm_getR _ _) <| fc fm_no <| fc fm_no <| fc (fm_iload _ _) <| fc (fm_aload _ _) <| fc (fm_getR _ _) <| fc fm_no <| fc fm_no <| fc (fm_push _ _) <| fc fm_no <| fc (fm_aload _ _) <| fc (fm_getI _ _) <| fc fm_no <| fc fm_no <| fc (fm_bin _) <| fc (fm_iload _ _) <| fc (fm_bin _) <| fc fm_iald <| fc fm_iast <| fc (fm_iinc _ _) <| fc fm_no <| fc fm_no <| fc (fm_goto _) <| fc fm_no <| fc fm_no <| fc (fm_aload _ _) <| fc (fm_push _ _) <| fc (fm_putI _ _ (by decide)) <| fc fm_no <| fc fm_no <| fc (fm_aload _ _) <| fc (fm_getI _ _) <| fc fm_no <| fc fm_no <| fc fm_iret <| fc_0
-- 130: SecondOboeModel.count(I)I
def k130 : List Step := [s_iload 1 1, s_switch [(0, 48), (1, 55), (2, 62), (3, 72), (4, 83), (5, 88), (6, 93), (7, 98)] 103, s_no, s_no, s_no, s_no, s_no, s_no, s_no, s_no, s_no, s_no, s_no, s_no, s_no, s_no, s_no, s_no, s_no, s_no, s_no, s_no, s_no, s_no, s_no, s_no, s_no, s_no, s_no, s_no, s_no, s_no, s_no, s_no, s_no, s_no, s_no, s_no, s_no, s_no, s_no, s_no, s_no, s_no, s_no, s_no, s_no, s_no, s_aload 0 1, s_getR 5 2, s_no, s_no, s_push 0 1, s_iald, s_iret, s_aload 0 1, s_getR 5 2, s_no, s_no, s_push 1 1, s_iald, s_iret, s_aload 0 1, s_getR 5 2, s_no, s_no, s_push 3 1, s_iald, s_scallI 82 1, s_no, s_no, s_iret, s_aload 0 1, s_getR 5 4, s_no, s_no, s_push 7 2, s_no, s_iald, s_scallI 82 1, s_no, s_no, s_iret, s_aload 0 1, s_getI 5 10, s_no, s_no, s_iret, s_aload 0 1, s_getI 5 6, s_no, s_no, s_iret, s_aload 0 1, s_getI 5 8, s_no, s_no, s_iret, s_aload 0 1, s_getI 5 1, s_no, s_no, s_iret, s_push (-1) 1, s_iret]
set_option maxRecDepth 100000 in
theorem f130 : ∀ s ∈ k130, Form s := fc (fm_iload _ _) <| fc (fm_switch _ _) <| fc fm_no <| fc fm_no <| fc fm_no <| fc fm_no <| fc fm_no <| fc fm_no <| fc fm_no <| fc fm_no <| fc fm_no <| fc fm_no <| fc fm_no <| fc fm_no <| fc fm_no <| fc fm_no <| fc fm_no <| fc fm_no <| fc fm_no <| fc fm_no <| fc fm_no <| fc fm_no <| fc fm_no <| fc fm_no <| fc fm_no <| fc fm_no <| fc fm_no <| fc fm_no <| fc fm_no <| fc fm_no <| fc fm_no <| fc fm_no <| fc fm_no <| fc fm_no <| fc fm_no <| fc fm_no <| fc fm_no <| fc fm_no <| fc fm_no <| fc fm_no <| fc fm_no <| fc fm_no <| fc fm_no <| fc fm_no <| fc fm_no <| fc fm_no <| fc fm_no <| fc fm_no <| fc (fm_aload _ _) <| fc (fm_getR _ _) <| fc fm_no <| fc fm_no <| fc (fm_push _ _) <| fc fm_iald <| fc fm_iret <| fc (fm_aload _ _) <| fc (fm_getR _ _) <| fc fm_no <| fc fm_no <| fc (fm_push _ _) <| fc fm_iald <| fc fm_iret <| fc (fm_aload _ _) <| fc (fm_getR _ _) <| fc fm_no <| fc fm_no <| fc (fm_push _ _) <| fc fm_iald <| fc (fm_scallI _ _) <| fc fm_no <| fc fm_no <| fc fm_iret <| fc (fm_aload _ _) <| fc (fm_getR _ _) <| fc fm_no <| fc fm_no <| fc (fm_push _ _) <| fc fm_no <| fc fm_iald <| fc (fm_scallI _ _) <| fc fm_no <| fc fm_no <| fc fm_iret <| fc (fm_aload _ _) <| fc (fm_getI _ _) <| fc fm_no <| fc fm_no <| fc fm_iret <| fc (fm_aload _ _) <| fc (fm_getI _ _) <| fc fm_no <| fc fm_no <| fc fm_iret <| fc (fm_aload _ _) <| fc (fm_getI _ _) <| fc fm_no <| fc fm_no <| fc fm_iret <| fc (fm_aload _ _) <| fc (fm_getI _ _) <| fc fm_no <| fc fm_no <| fc fm_iret <| fc (fm_push _ _) <| fc fm_iret <| fc_0
-- 131: SecondOboeLaw.law([I)Z
def k131 : List Step := [s_no, s_no, s_no, s_no, s_no, s_no, s_no, s_no, s_no, s_no, s_no, s_no, s_no, s_no, s_no, s_no, s_push 0 1, s_istore 3 1, s_iload 3 1, s_aload 0 1, s_slen, s_push 4 1, s_bin iSu, s_icgt 851, s_no, s_no, s_aload 0 1, s_iload 3 1, s_sald, s_push 31 2, s_no, s_bin ban, s_switch [(0, 172), (1, 195), (2, 208), (3, 221), (4, 234), (5, 267), (6, 290), (7, 313), (8, 336), (9, 359), (10, 372), (11, 395), (12, 428), (13, 451), (14, 464), (15, 487), (16, 500), (17, 523), (18, 546), (19, 559), (20, 582), (21, 595), (22, 618), (23, 651), (24, 694), (25, 707), (26, 730), (27, 753), (28, 796), (29, 809), (30, 822)] 845, s_no, s_no, s_no, s_no, s_no, s_no, s_no, s_no, s_no, s_no, s_no, s_no, s_no, s_no, s_no, s_no, s_no, s_no, s_no, s_no, s_no, s_no, s_no, s_no, s_no, s_no, s_no, s_no, s_no, s_no, s_no, s_no, s_no, s_no, s_no, s_no, s_no, s_no, s_no, s_no, s_no, s_no, s_no, s_no, s_no, s_no, s_no, s_no, s_no, s_no, s_no, s_no, s_no, s_no, s_no, s_no, s_no, s_no, s_no, s_no, s_no, s_no, s_no, s_no, s_no, s_no, s_no, s_no, s_no, s_no, s_no, s_no, s_no, s_no, s_no, s_no, s_no, s_no, s_no, s_no, s_no, s_no, s_no, s_no, s_no, s_no, s_no, s_no, s_no, s_no, s_no, s_no, s_no, s_no, s_no, s_no, s_no, s_no, s_no, s_no, s_no, s_no, s_no, s_no, s_no, s_no, s_no, s_no, s_no, s_no, s_no, s_no, s_no, s_no, s_no, s_no, s_no, s_no, s_no, s_no, s_no, s_no, s_no, s_no, s_no, s_no, s_no, s_no, s_no, s_no, s_no, s_no, s_no, s_no, s_no, s_no, s_no, s_no, s_no, s_aload 1 1, s_aload 0 1, s_iload 3 1, s_push 1 1, s_bin iAd, s_sald, s_call 4 1 (s_scallI 33 2), s_no, s_no, s_aload 2 1, s_aload 0 1, s_iload 3 1, s_push 1 1, s_bin iAd, s_sald, s_call 5 1 (s_scallI 83 2), s_no, s_no, s_iceq 845, s_no, s_no, s_push 0 1, s_zret, s_aload 1 1, s_call 4 0 (s_scallI 34 1), s_no, s_no, s_aload 2 1, s_call 5 0 (s_scallI 84 1), s_no, s_no, s_iceq 845, s_no, s_no, s_push 0 1, s_zret, s_aload 1 1, s_call 4 0 (s_scallI 35 1), s_no, s_no, s_aload 2 1, s_call 5 0 (s_scallI 90 1), s_no, s_no, s_iceq 845, s_no, s_no, s_push 0 1, s_zret, s_aload 1 1, s_call 4 0 (s_scallI 36 1), s_no, s_no, s_aload 2 1, s_call 5 0 (s_scallI 91 1), s_no, s_no, s_iceq 845, s_no, s_no, s_push 0 1, s_zret, s_aload 1 1, s_aload 0 1, s_iload 3 1, s_push 1 1, s_bin iAd, s_sald, s_aload 0 1, s_iload 3 1, s_push 2 1, s_bin iAd, s_sald, s_call 4 2 (s_scallI 39 3), s_no, s_no, s_aload 2 1, s_aload 0 1, s_iload 3 1, s_push 1 1, s_bin iAd, s_sald, s_aload 0 1, s_iload 3 1, s_push 2 1, s_bin iAd, s_sald, s_call 5 2 (s_scallI 97 3), s_no, s_no, s_iceq 845, s_no, s_no, s_push 0 1, s_zret, s_aload 1 1, s_aload 0 1, s_iload 3 1, s_push 1 1, s_bin iAd, s_sald, s_call 4 1 (s_scallI 40 2), s_no, s_no, s_aload 2 1, s_aload 0 1, s_iload 3 1, s_push 1 1, s_bin iAd, s_sald, s_call 5 1 (s_scallI 98 2), s_no, s_no, s_iceq 845, s_no, s_no, s_push 0 1, s_zret, s_aload 1 1, s_aload 0 1, s_iload 3 1, s_push 1 1, s_bin iAd, s_sald, s_call 4 1 (s_scallI 42 2), s_no, s_no, s_aload 2 1, s_aload 0 1, s_iload 3 1, s_push 1 1, s_bin iAd, s_sald, s_call 5 1 (s_scallI 99 2), s_no, s_no, s_iceq 845, s_no, s_no, s_push 0 1, s_zret, s_aload 1 1, s_aload 0 1, s_iload 3 1, s_push 1 1, s_bin iAd, s_sald, s_call 4 1 (s_scallI 43 2), s_no, s_no, s_aload 2 1, s_aload 0 1, s_iload 3 1, s_push 1 1, s_bin iAd, s_sald, s_call 5 1 (s_scallI 100 2), s_no, s_no, s_iceq 845, s_no, s_no, s_push 0 1, s_zret, s_aload 1 1, s_aload 0 1, s_iload 3 1, s_push 1 1, s_bin iAd, s_sald, s_call 4 1 (s_scallI 45 2), s_no, s_no, s_aload 2 1, s_aload 0 1, s_iload 3 1, s_push 1 1, s_bin iAd, s_sald, s_call 5 1 (s_scallI 101 2), s_no, s_no, s_iceq 845, s_no, s_no, s_push 0 1, s_zret, s_aload 1 1, s_call 4 0 (s_scallI 46 1), s_no, s_no, s_aload 2 1, s_call 5 0 (s_scallI 102 1), s_no, s_no, s_iceq 845, s_no, s_no, s_push 0 1, s_zret, s_aload 1 1, s_aload 0 1, s_iload 3 1, s_push 1 1, s_bin iAd, s_sald, s_call 4 1 (s_scallI 47 2), s_no, s_no, s_aload 2 1, s_aload 0 1, s_iload 3 1, s_push 1 1, s_bin iAd, s_sald, s_call 5 1 (s_scallI 103 2), s_no, s_no, s_iceq 845, s_no, s_no, s_push 0 1, s_zret, s_aload 1 1, s_aload 0 1, s_iload 3 1, s_push 1 1, s_bin iAd, s_sald, s_aload 0 1, s_iload 3 1, s_push 2 1, s_bin iAd, s_sald, s_call 4 2 (s_scallI 49 3), s_no, s_no, s_aload 2 1, s_aload 0 1, s_iload 3 1, s_push 1 1, s_bin iAd, s_sald, s_aload 0 1, s_iload 3 1, s_push 2 1, s_bin iAd, s_sald, s_call 5 2 (s_scallI 105 3), s_no, s_no, s_iceq 845, s_no, s_no, s_push 0 1, s_zret, s_aload 1 1, s_aload 0 1, s_iload 3 1, s_push 1 1, s_bin iAd, s_sald, s_call 4 1 (s_scallI 51 2), s_no, s_no, s_aload 2 1, s_aload 0 1, s_iload 3 1, s_push 1 1, s_bin iAd, s_sald, s_call 5 1 (s_scallI 107 2), s_no, s_no, s_iceq 845, s_no, s_no, s_push 0 1, s_zret, s_aload 1 1, s_call 4 0 (s_scallI 52 1), s_no, s_no, s_aload 2 1, s_call 5 0 (s_scallI 108 1), s_no, s_no, s_iceq 845, s_no, s_no, s_push 0 1, s_zret, s_aload 1 1, s_aload 0 1, s_iload 3 1, s_push 1 1, s_bin iAd, s_sald, s_call 4 1 (s_scallI 54 2), s_no, s_no, s_aload 2 1, s_aload 0 1, s_iload 3 1, s_push 1 1, s_bin iAd, s_sald, s_call 5 1 (s_scallI 112 2), s_no, s_no, s_iceq 845, s_no, s_no, s_push 0 1, s_zret, s_aload 1 1, s_call 4 0 (s_scallI 55 1), s_no, s_no, s_aload 2 1, s_call 5 0 (s_scallI 114 1), s_no, s_no, s_iceq 845, s_no, s_no, s_push 0 1, s_zret, s_aload 1 1, s_aload 0 1, s_iload 3 1, s_push 1 1, s_bin iAd, s_sald, s_call 4 1 (s_scallI 56 2), s_no, s_no, s_aload 2 1, s_aload 0 1, s_iload 3 1, s_push 1 1, s_bin iAd, s_sald, s_call 5 1 (s_scallI 115 2), s_no, s_no, s_iceq 845, s_no, s_no, s_push 0 1, s_zret, s_aload 1 1, s_aload 0 1, s_iload 3 1, s_push 1 1, s_bin iAd, s_sald, s_call 4 1 (s_scallI 57 2), s_no, s_no, s_aload 2 1, s_aload 0 1, s_iload 3 1, s_push 1 1, s_bin iAd, s_sald, s_call 5 1 (s_scallI 116 2), s_no, s_no, s_iceq 845, s_no, s_no, s_push 0 1, s_zret, s_aload 1 1, s_call 4 0 (s_scallI 58 1), s_no, s_no, s_aload 2 1, s_call 5 0 (s_scallI 117 1), s_no, s_no, s_iceq 845, s_no, s_no, s_push 0 1, s_zret, s_aload 1 1, s_aload 0 1, s_iload 3 1, s_push 1 1, s_bin iAd, s_sald, s_call 4 1 (s_scallI 59 2), s_no, s_no, s_aload 2 1, s_aload 0 1, s_iload 3 1, s_push 1 1, s_bin iAd, s_sald, s_call 5 1 (s_scallI 118 2), s_no, s_no, s_iceq 845, s_no, s_no, s_push 0 1, s_zret, s_aload 1 1, s_call 4 0 (s_scallI 60 1), s_no, s_no, s_aload 2 1, s_call 5 0 (s_scallI 119 1), s_no, s_no, s_iceq 845, s_no, s_no, s_push 0 1, s_zret, s_aload 1 1, s_aload 0 1, s_iload 3 1, s_push 1 1, s_bin iAd, s_sald, s_call 4 1 (s_scallI 62 2), s_no, s_no, s_aload 2 1, s_aload 0 1, s_iload 3 1, s_push 1 1, s_bin iAd, s_sald, s_call 5 1 (s_scallI 121 2), s_no, s_no, s_iceq 845, s_no, s_no, s_push 0 1, s_zret, s_aload 1 1, s_aload 0 1, s_iload 3 1, s_push 1 1, s_bin iAd, s_sald, s_aload 0 1, s_iload 3 1, s_push 2 1, s_bin iAd, s_sald, s_call 4 2 (s_scallI 63 3), s_no, s_no, s_aload 2 1, s_aload 0 1, s_iload 3 1, s_push 1 1, s_bin iAd, s_sald, s_aload 0 1, s_iload 3 1, s_push 2 1, s_bin iAd, s_sald, s_call 5 2 (s_scallI 122 3), s_no, s_no, s_iceq 845, s_no, s_no, s_push 0 1, s_zret, s_aload 1 1, s_aload 0 1, s_iload 3 1, s_push 1 1, s_bin iAd, s_sald, s_aload 0 1, s_iload 3 1, s_push 2 1, s_bin iAd, s_sald, s_aload 0 1, s_iload 3 1, s_push 3 1, s_bin iAd, s_sald, s_call 4 3 (s_scallI 64 4), s_no, s_no, s_aload 2 1, s_aload 0 1, s_iload 3 1, s_push 1 1, s_bin iAd, s_sald, s_aload 0 1, s_iload 3 1, s_push 2 1, s_bin iAd, s_sald, s_aload 0 1, s_iload 3 1, s_push 3 1, s_bin iAd, s_sald, s_call 5 3 (s_scallI 123 4), s_no, s_no, s_iceq 845, s_no, s_no, s_push 0 1, s_zret, s_aload 1 1, s_call 4 0 (s_scallI 65 1), s_no, s_no, s_aload 2 1, s_call 5 0 (s_scallI 124 1), s_no, s_no, s_iceq 845, s_no, s_no, s_push 0 1, s_zret, s_aload 1 1, s_aload 0 1, s_iload 3 1, s_push 1 1, s_bin iAd, s_sald, s_call 4 1 (s_scallI 67 2), s_no, s_no, s_aload 2 1, s_aload 0 1, s_iload 3 1, s_push 1 1, s_bin iAd, s_sald, s_call 5 1 (s_scallI 125 2), s_no, s_no, s_iceq 845, s_no, s_no, s_push 0 1, s_zret, s_aload 1 1, s_aload 0 1, s_iload 3 1, s_push 1 1, s_bin iAd, s_sald, s_call 4 1 (s_scallI 68 2), s_no, s_no, s_aload 2 1, s_aload 0 1, s_iload 3 1, s_push 1 1, s_bin iAd, s_sald, s_call 5 1 (s_scallI 126 2), s_no, s_no, s_iceq 845, s_no, s_no, s_push 0 1, s_zret, s_aload 1 1, s_aload 0 1, s_iload 3 1, s_push 1 1, s_bin iAd, s_sald, s_aload 0 1, s_iload 3 1, s_push 2 1, s_bin iAd, s_sald, s_aload 0 1, s_iload 3 1, s_push 3 1, s_bin iAd, s_sald, s_call 4 3 (s_scallI 70 4), s_no, s_no, s_aload 2 1, s_aload 0 1, s_iload 3 1, s_push 1 1, s_bin iAd, s_sald, s_aload 0 1, s_iload 3 1, s_push 2 1, s_bin iAd, s_sald, s_aload 0 1, s_iload 3 1, s_push 3 1, s_bin iAd, s_sald, s_call 5 3 (s_scallI 127 4), s_no, s_no, s_iceq 845, s_no, s_no, s_push 0 1, s_zret, s_aload 1 1, s_call 4 0 (s_scallI 71 1), s_no, s_no, s_aload 2 1, s_call 5 0 (s_scallI 128 1), s_no, s_no, s_iceq 845, s_no, s_no, s_push 0 1, s_zret, s_aload 1 1, s_call 4 0 (s_scallI 72 1), s_no, s_no, s_aload 2 1, s_call 5 0 (s_scallI 129 1), s_no, s_no, s_iceq 845, s_no, s_no, s_push 0 1, s_zret, s_aload 1 1, s_aload 0 1, s_iload 3 1, s_push 1 1, s_bin iAd, s_sald, s_call 4 1 (s_scallI 73 2), s_no, s_no, s_aload 2 1, s_aload 0 1, s_iload 3 1, s_push 1 1, s_bin iAd, s_sald, s_call 5 1 (s_scallI 130 2), s_no, s_no, s_iceq 845, s_no, s_no, s_push 0 1, s_zret, s_iinc 3 4, s_no, s_no, s_goto 18, s_no, s_no, s_push 1 1, s_zret]
set_option maxRecDepth 100000 in
theorem f131 : ∀ s ∈ k131, Form s := fc fm_no <| fc fm_no <| fc fm_no <| fc fm_no <| fc fm_no <| fc fm_no <| fc fm_no <| fc fm_no <| fc fm_no <| fc fm_no <| fc fm_no <| fc fm_no <| fc fm_no <| fc fm_no <| fc fm_no <| fc fm_no <| fc (fm_push _ _) <| fc (fm_istore _ _) <| fc (fm_iload _ _) <| fc (fm_aload _ _) <| fc fm_slen <| fc (fm_push _ _) <| fc (fm_bin _) <| fc (fm_icgt _) <| fc fm_no <| fc fm_no <| fc (fm_aload _ _) <| fc (fm_iload _ _) <| fc fm_sald <| fc (fm_push _ _) <| fc fm_no <| fc (fm_bin _) <| fc (fm_switch _ _) <| fc fm_no <| fc fm_no <| fc fm_no <| fc fm_no <| fc fm_no <| fc fm_no <| fc fm_no <| fc fm_no <| fc fm_no <| fc fm_no <| fc fm_no <| fc fm_no <| fc fm_no <| fc fm_no <| fc fm_no <| fc fm_no <| fc fm_no <| fc fm_no <| fc fm_no <| fc fm_no <| fc fm_no <| fc fm_no <| fc fm_no <| fc fm_no <| fc fm_no <| fc fm_no <| fc fm_no <| fc fm_no <| fc fm_no <| fc fm_no <| fc fm_no <| fc fm_no <| fc fm_no <| fc fm_no <| fc fm_no <| fc fm_no <| fc fm_no <| fc fm_no <| fc fm_no <| fc fm_no <| fc fm_no <| fc fm_no <| fc fm_no <| fc fm_no <| fc fm_no <| fc fm_no <| fc fm_no <| fc fm_no <| fc fm_no <| fc fm_no <| fc fm_no <| fc fm_no <| fc fm_no <| fc fm_no <| fc fm_no <| fc fm_no <| fc fm_no <| fc fm_no <| fc fm_no <| fc fm_no <| fc fm_no <| fc fm_no <| fc fm_no <| fc fm_no <| fc fm_no <| fc fm_no <| fc fm_no <| fc fm_no <| fc fm_no <| fc fm_no <| fc fm_no <| fc fm_no <| fc fm_no <| fc fm_no <| fc fm_no <| fc fm_no <| fc fm_no <| fc fm_no <| fc fm_no <| fc fm_no <| fc fm_no <| fc fm_no <| fc fm_no <| fc fm_no <| fc fm_no <| fc fm_no <| fc fm_no <| fc fm_no <| fc fm_no <| fc fm_no <| fc fm_no <| fc fm_no <| fc fm_no <| fc fm_no <| fc fm_no <| fc fm_no <| fc fm_no <| fc fm_no <| fc fm_no <| fc fm_no <| fc fm_no <| fc fm_no <| fc fm_no <| fc fm_no <| fc fm_no <| fc fm_no <| fc fm_no <| fc fm_no <| fc fm_no <| fc fm_no <| fc fm_no <| fc fm_no <| fc fm_no <| fc fm_no <| fc fm_no <| fc fm_no <| fc fm_no <| fc fm_no <| fc fm_no <| fc fm_no <| fc fm_no <| fc fm_no <| fc fm_no <| fc fm_no <| fc fm_no <| fc fm_no <| fc fm_no <| fc fm_no <| fc fm_no <| fc fm_no <| fc fm_no <| fc fm_no <| fc fm_no <| fc fm_no <| fc fm_no <| fc fm_no <| fc fm_no <| fc fm_no <| fc fm_no <| fc (fm_aload _ _) <| fc (fm_aload _ _) <| fc (fm_iload _ _) <| fc (fm_push _ _) <| fc (fm_bin _) <| fc fm_sald <| fc (fm_call _ _ _ (fm_scallI _ _)) <| fc fm_no <| fc fm_no <| fc (fm_aload _ _) <| fc (fm_aload _ _) <| fc (fm_iload _ _) <| fc (fm_push _ _) <| fc (fm_bin _) <| fc fm_sald <| fc (fm_call _ _ _ (fm_scallI _ _)) <| fc fm_no <| fc fm_no <| fc (fm_iceq _) <| fc fm_no <| fc fm_no <| fc (fm_push _ _) <| fc fm_zret <| fc (fm_aload _ _) <| fc (fm_call _ _ _ (fm_scallI _ _)) <| fc fm_no <| fc fm_no <| fc (fm_aload _ _) <| fc (fm_call _ _ _ (fm_scallI _ _)) <| fc fm_no <| fc fm_no <| fc (fm_iceq _) <| fc fm_no <| fc fm_no <| fc (fm_push _ _) <| fc fm_zret <| fc (fm_aload _ _) <| fc (fm_call _ _ _ (fm_scallI _ _)) <| fc fm_no <| fc fm_no <| fc (fm_aload _ _) <| fc (fm_call _ _ _ (fm_scallI _ _)) <| fc fm_no <| fc fm_no <| fc (fm_iceq _) <| fc fm_no <| fc fm_no <| fc (fm_push _ _) <| fc fm_zret <| fc (fm_aload _ _) <| fc (fm_call _ _ _ (fm_scallI _ _)) <| fc fm_no <| fc fm_no <| fc (fm_aload _ _) <| fc (fm_call _ _ _ (fm_scallI _ _)) <| fc fm_no <| fc fm_no <| fc (fm_iceq _) <| fc fm_no <| fc fm_no <| fc (fm_push _ _) <| fc fm_zret <| fc (fm_aload _ _) <| fc (fm_aload _ _) <| fc (fm_iload _ _) <| fc (fm_push _ _) <| fc (fm_bin _) <| fc fm_sald <| fc (fm_aload _ _) <| fc (fm_iload _ _) <| fc (fm_push _ _) <| fc (fm_bin _) <| fc fm_sald <| fc (fm_call _ _ _ (fm_scallI _ _)) <| fc fm_no <| fc fm_no <| fc (fm_aload _ _) <| fc (fm_aload _ _) <| fc (fm_iload _ _) <| fc (fm_push _ _) <| fc (fm_bin _) <| fc fm_sald <| fc (fm_aload _ _) <| fc (fm_iload _ _) <| fc (fm_push _ _) <| fc (fm_bin _) <| fc fm_sald <| fc (fm_call _ _ _ (fm_scallI _ _)) <| fc fm_no <| fc fm_no <| fc (fm_iceq _) <| fc fm_no <| fc fm_no <| fc (fm_push _ _) <| fc fm_zret <| fc (fm_aload _ _) <| fc (fm_aload _ _) <| fc (fm_iload _ _) <| fc (fm_push _ _) <| fc (fm_bin _) <| fc fm_sald <| fc (fm_call _ _ _ (fm_scallI _ _)) <| fc fm_no <| fc fm_no <| fc (fm_aload _ _) <| fc (fm_aload _ _) <| fc (fm_iload _ _) <| fc (fm_push _ _) <| fc (fm_bin _) <| fc fm_sald <| fc (fm_call _ _ _ (fm_scallI _ _)) <| fc fm_no <| fc fm_no <| fc (fm_iceq _) <| fc fm_no <| fc fm_no <| fc (fm_push _ _) <| fc fm_zret <| fc (fm_aload _ _) <| fc (fm_aload _ _) <| fc (fm_iload _ _) <| fc (fm_push _ _) <| fc (fm_bin _) <| fc fm_sald <| fc (fm_call _ _ _ (fm_scallI _ _)) <| fc fm_no <| fc fm_no <| fc (fm_aload _ _) <| fc (fm_aload _ _) <| fc (fm_iload _ _) <| fc (fm_push _ _) <| fc (fm_bin _) <| fc fm_sald <| fc (fm_call _ _ _ (fm_scallI _ _)) <| fc fm_no <| fc fm_no <| fc (fm_iceq _) <| fc fm_no <| fc fm_no <| fc (fm_push _ _) <| fc fm_zret <| fc (fm_aload _ _) <| fc (fm_aload _ _) <| fc (fm_iload _ _) <| fc (fm_push _ _) <| fc (fm_bin _) <| fc fm_sald <| fc (fm_call _ _ _ (fm_scallI _ _)) <| fc fm_no <| fc fm_no <| fc (fm_aload _ _) <| fc (fm_aload _ _) <| fc (fm_iload _ _) <| fc (fm_push _ _) <| fc (fm_bin _) <| fc fm_sald <| fc (fm_call _ _ _ (fm_scallI _ _)) <| fc fm_no <| fc fm_no <| fc (fm_iceq _) <| fc fm_no <| fc fm_no <| fc (fm_push _ _) <| fc fm_zret <| fc (fm_aload _ _) <| fc (fm_aload _ _) <| fc (fm_iload _ _) <| fc (fm_push _ _) <| fc (fm_bin _) <| fc fm_sald <| fc (fm_call _ _ _ (fm_scallI _ _)) <| fc fm_no <| fc fm_no <| fc (fm_aload _ _) <| fc (fm_aload _ _) <| fc (fm_iload _ _) <| fc (fm_push _ _) <| fc (fm_bin _) <| fc fm_sald <| fc (fm_call _ _ _ (fm_scallI _ _)) <| fc fm_no <| fc fm_no <| fc (fm_iceq _) <| fc fm_no <| fc fm_no <| fc (fm_push _ _) <| fc fm_zret <| fc (fm_aload _ _) <| fc (fm_call _ _ _ (fm_scallI _ _)) <| fc fm_no <| fc fm_no <| fc (fm_aload _ _) <| fc (fm_call _ _ _ (fm_scallI _ _)) <| fc fm_no <| fc fm_no <| fc (fm_iceq _) <| fc fm_no <| fc fm_no <| fc (fm_push _ _) <| fc fm_zret <| fc (fm_aload _ _) <| fc (fm_aload _ _) <| fc (fm_iload _ _) <| fc (fm_push _ _) <| fc (fm_bin _) <| fc fm_sald <| fc (fm_call _ _ _ (fm_scallI _ _)) <| fc fm_no <| fc fm_no <| fc (fm_aload _ _) <| fc (fm_aload _ _) <| fc (fm_iload _ _) <| fc (fm_push _ _) <| fc (fm_bin _) <| fc fm_sald <| fc (fm_call _ _ _ (fm_scallI _ _)) <| fc fm_no <| fc fm_no <| fc (fm_iceq _) <| fc fm_no <| fc fm_no <| fc (fm_push _ _) <| fc fm_zret <| fc (fm_aload _ _) <| fc (fm_aload _ _) <| fc (fm_iload _ _) <| fc (fm_push _ _) <| fc (fm_bin _) <| fc fm_sald <| fc (fm_aload _ _) <| fc (fm_iload _ _) <| fc (fm_push _ _) <| fc (fm_bin _) <| fc fm_sald <| fc (fm_call _ _ _ (fm_scallI _ _)) <| fc fm_no <| fc fm_no <| fc (fm_aload _ _) <| fc (fm_aload _ _) <| fc (fm_iload _ _) <| fc (fm_push _ _) <| fc (fm_bin _) <| fc fm_sald <| fc (fm_aload _ _) <| fc (fm_iload _ _) <| fc (fm_push _ _) <| fc (fm_bin _) <| fc fm_sald <| fc (fm_call _ _ _ (fm_scallI _ _)) <| fc fm_no <| fc fm_no <| fc (fm_iceq _) <| fc fm_no <| fc fm_no <| fc (fm_push _ _) <| fc fm_zret <| fc (fm_aload _ _) <| fc (fm_aload _ _) <| fc (fm_iload _ _) <| fc (fm_push _ _) <| fc (fm_bin _) <| fc fm_sald <| fc (fm_call _ _ _ (fm_scallI _ _)) <| fc fm_no <| fc fm_no <| fc (fm_aload _ _) <| fc (fm_aload _ _) <| fc (fm_iload _ _) <| fc (fm_push _ _) <| fc (fm_bin _) <| fc fm_sald <| fc (fm_call _ _ _ (fm_scallI _ _)) <| fc fm_no <| fc fm_no <| fc (fm_iceq _) <| fc fm_no <| fc fm_no <| fc (fm_push _ _) <| fc fm_zret <| fc (fm_aload _ _) <| fc (fm_call _ _ _ (fm_scallI _ _)) <| fc fm_no <| fc fm_no <| fc (fm_aload _ _) <| fc (fm_call _ _ _ (fm_scallI _ _)) <| fc fm_no <| fc fm_no <| fc (fm_iceq _) <| fc fm_no <| fc fm_no <| fc (fm_push _ _) <| fc fm_zret <| fc (fm_aload _ _) <| fc (fm_aload _ _) <| fc (fm_iload _ _) <| fc (fm_push _ _) <| fc (fm_bin _) <| fc fm_sald <| fc (fm_call _ _ _ (fm_scallI _ _)) <| fc fm_no <| fc fm_no <| fc (fm_aload _ _) <| fc (fm_aload _ _) <| fc (fm_iload _ _) <| fc (fm_push _ _) <| fc (fm_bin _) <| fc fm_sald <| fc (fm_call _ _ _ (fm_scallI _ _)) <| fc fm_no <| fc fm_no <| fc (fm_iceq _) <| fc fm_no <| fc fm_no <| fc (fm_push _ _) <| fc fm_zret <| fc (fm_aload _ _) <| fc (fm_call _ _ _ (fm_scallI _ _)) <| fc fm_no <| fc fm_no <| fc (fm_aload _ _) <| fc (fm_call _ _ _ (fm_scallI _ _)) <| fc fm_no <| fc fm_no <| fc (fm_iceq _) <| fc fm_no <| fc fm_no <| fc (fm_push _ _) <| fc fm_zret <| fc (fm_aload _ _) <| fc (fm_aload _ _) <| fc (fm_iload _ _) <| fc (fm_push _ _) <| fc (fm_bin _) <| fc fm_sald <| fc (fm_call _ _ _ (fm_scallI _ _)) <| fc fm_no <| fc fm_no <| fc (fm_aload _ _) <| fc (fm_aload _ _) <| fc (fm_iload _ _) <| fc (fm_push _ _) <| fc (fm_bin _) <| fc fm_sald <| fc (fm_call _ _ _ (fm_scallI _ _)) <| fc fm_no <| fc fm_no <| fc (fm_iceq _) <| fc fm_no <| fc fm_no <| fc (fm_push _ _) <| fc fm_zret <| fc (fm_aload _ _) <| fc (fm_aload _ _) <| fc (fm_iload _ _) <| fc (fm_push _ _) <| fc (fm_bin _) <| fc fm_sald <| fc (fm_call _ _ _ (fm_scallI _ _)) <| fc fm_no <| fc fm_no <| fc (fm_aload _ _) <| fc (fm_aload _ _) <| fc (fm_iload _ _) <| fc (fm_push _ _) <| fc (fm_bin _) <| fc fm_sald <| fc (fm_call _ _ _ (fm_scallI _ _)) <| fc fm_no <| fc fm_no <| fc (fm_iceq _) <| fc fm_no <| fc fm_no <| fc (fm_push _ _) <| fc fm_zret <| fc (fm_aload _ _) <| fc (fm_call _ _ _ (fm_scallI _ _)) <| fc fm_no <| fc fm_no <| fc (fm_aload _ _) <| fc (fm_call _ _ _ (fm_scallI _ _)) <| fc fm_no <| fc fm_no <| fc (fm_iceq _) <| fc fm_no <| fc fm_no <| fc (fm_push _ _) <| fc fm_zret <| fc (fm_aload _ _) <| fc (fm_aload _ _) <| fc (fm_iload _ _) <| fc (fm_push _ _) <| fc (fm_bin _) <| fc fm_sald <| fc (fm_call _ _ _ (fm_scallI _ _)) <| fc fm_no <| fc fm_no <| fc (fm_aload _ _) <| fc (fm_aload _ _) <| fc (fm_iload _ _) <| fc (fm_push _ _) <| fc (fm_bin _) <| fc fm_sald <| fc (fm_call _ _ _ (fm_scallI _ _)) <| fc fm_no <| fc fm_no <| fc (fm_iceq _) <| fc fm_no <| fc fm_no <| fc (fm_push _ _) <| fc fm_zret <| fc (fm_aload _ _) <| fc (fm_call _ _ _ (fm_scallI _ _)) <| fc fm_no <| fc fm_no <| fc (fm_aload _ _) <| fc (fm_call _ _ _ (fm_scallI _ _)) <| fc fm_no <| fc fm_no <| fc (fm_iceq _) <| fc fm_no <| fc fm_no <| fc (fm_push _ _) <| fc fm_zret <| fc (fm_aload _ _) <| fc (fm_aload _ _) <| fc (fm_iload _ _) <| fc (fm_push _ _) <| fc (fm_bin _) <| fc fm_sald <| fc (fm_call _ _ _ (fm_scallI _ _)) <| fc fm_no <| fc fm_no <| fc (fm_aload _ _) <| fc (fm_aload _ _) <| fc (fm_iload _ _) <| fc (fm_push _ _) <| fc (fm_bin _) <| fc fm_sald <| fc (fm_call _ _ _ (fm_scallI _ _)) <| fc fm_no <| fc fm_no <| fc (fm_iceq _) <| fc fm_no <| fc fm_no <| fc (fm_push _ _) <| fc fm_zret <| fc (fm_aload _ _) <| fc (fm_aload _ _) <| fc (fm_iload _ _) <| fc (fm_push _ _) <| fc (fm_bin _) <| fc fm_sald <| fc (fm_aload _ _) <| fc (fm_iload _ _) <| fc (fm_push _ _) <| fc (fm_bin _) <| fc fm_sald <| fc (fm_call _ _ _ (fm_scallI _ _)) <| fc fm_no <| fc fm_no <| fc (fm_aload _ _) <| fc (fm_aload _ _) <| fc (fm_iload _ _) <| fc (fm_push _ _) <| fc (fm_bin _) <| fc fm_sald <| fc (fm_aload _ _) <| fc (fm_iload _ _) <| fc (fm_push _ _) <| fc (fm_bin _) <| fc fm_sald <| fc (fm_call _ _ _ (fm_scallI _ _)) <| fc fm_no <| fc fm_no <| fc (fm_iceq _) <| fc fm_no <| fc fm_no <| fc (fm_push _ _) <| fc fm_zret <| fc (fm_aload _ _) <| fc (fm_aload _ _) <| fc (fm_iload _ _) <| fc (fm_push _ _) <| fc (fm_bin _) <| fc fm_sald <| fc (fm_aload _ _) <| fc (fm_iload _ _) <| fc (fm_push _ _) <| fc (fm_bin _) <| fc fm_sald <| fc (fm_aload _ _) <| fc (fm_iload _ _) <| fc (fm_push _ _) <| fc (fm_bin _) <| fc fm_sald <| fc (fm_call _ _ _ (fm_scallI _ _)) <| fc fm_no <| fc fm_no <| fc (fm_aload _ _) <| fc (fm_aload _ _) <| fc (fm_iload _ _) <| fc (fm_push _ _) <| fc (fm_bin _) <| fc fm_sald <| fc (fm_aload _ _) <| fc (fm_iload _ _) <| fc (fm_push _ _) <| fc (fm_bin _) <| fc fm_sald <| fc (fm_aload _ _) <| fc (fm_iload _ _) <| fc (fm_push _ _) <| fc (fm_bin _) <| fc fm_sald <| fc (fm_call _ _ _ (fm_scallI _ _)) <| fc fm_no <| fc fm_no <| fc (fm_iceq _) <| fc fm_no <| fc fm_no <| fc (fm_push _ _) <| fc fm_zret <| fc (fm_aload _ _) <| fc (fm_call _ _ _ (fm_scallI _ _)) <| fc fm_no <| fc fm_no <| fc (fm_aload _ _) <| fc (fm_call _ _ _ (fm_scallI _ _)) <| fc fm_no <| fc fm_no <| fc (fm_iceq _) <| fc fm_no <| fc fm_no <| fc (fm_push _ _) <| fc fm_zret <| fc (fm_aload _ _) <| fc (fm_aload _ _) <| fc (fm_iload _ _) <| fc (fm_push _ _) <| fc (fm_bin _) <| fc fm_sald <| fc (fm_call _ _ _ (fm_scallI _ _)) <| fc fm_no <| fc fm_no <| fc (fm_aload _ _) <| fc (fm_aload _ _) <| fc (fm_iload _ _) <| fc (fm_push _ _) <| fc (fm_bin _) <| fc fm_sald <| fc (fm_call _ _ _ (fm_scallI _ _)) <| fc fm_no <| fc fm_no <| fc (fm_iceq _) <| fc fm_no <| fc fm_no <| fc (fm_push _ _) <| fc fm_zret <| fc (fm_aload _ _) <| fc (fm_aload _ _) <| fc (fm_iload _ _) <| fc (fm_push _ _) <| fc (fm_bin _) <| fc fm_sald <| fc (fm_call _ _ _ (fm_scallI _ _)) <| fc fm_no <| fc fm_no <| fc (fm_aload _ _) <| fc (fm_aload _ _) <| fc (fm_iload _ _) <| fc (fm_push _ _) <| fc (fm_bin _) <| fc fm_sald <| fc (fm_call _ _ _ (fm_scallI _ _)) <| fc fm_no <| fc fm_no <| fc (fm_iceq _) <| fc fm_no <| fc fm_no <| fc (fm_push _ _) <| fc fm_zret <| fc (fm_aload _ _) <| fc (fm_aload _ _) <| fc (fm_iload _ _) <| fc (fm_push _ _) <| fc (fm_bin _) <| fc fm_sald <| fc (fm_aload _ _) <| fc (fm_iload _ _) <| fc (fm_push _ _) <| fc (fm_bin _) <| fc fm_sald <| fc (fm_aload _ _) <| fc (fm_iload _ _) <| fc (fm_push _ _) <| fc (fm_bin _) <| fc fm_sald <| fc (fm_call _ _ _ (fm_scallI _ _)) <| fc fm_no <| fc fm_no <| fc (fm_aload _ _) <| fc (fm_aload _ _) <| fc (fm_iload _ _) <| fc (fm_push _ _) <| fc (fm_bin _) <| fc fm_sald <| fc (fm_aload _ _) <| fc (fm_iload _ _) <| fc (fm_push _ _) <| fc (fm_bin _) <| fc fm_sald <| fc (fm_aload _ _) <| fc (fm_iload _ _) <| fc (fm_push _ _) <| fc (fm_bin _) <| fc fm_sald <| fc (fm_call _ _ _ (fm_scallI _ _)) <| fc fm_no <| fc fm_no <| fc (fm_iceq _) <| fc fm_no <| fc fm_no <| fc (fm_push _ _) <| fc fm_zret <| fc (fm_aload _ _) <| fc (fm_call _ _ _ (fm_scallI _ _)) <| fc fm_no <| fc fm_no <| fc (fm_aload _ _) <| fc (fm_call _ _ _ (fm_scallI _ _)) <| fc fm_no <| fc fm_no <| fc (fm_iceq _) <| fc fm_no <| fc fm_no <| fc (fm_push _ _) <| fc fm_zret <| fc (fm_aload _ _) <| fc (fm_call _ _ _ (fm_scallI _ _)) <| fc fm_no <| fc fm_no <| fc (fm_aload _ _) <| fc (fm_call _ _ _ (fm_scallI _ _)) <| fc fm_no <| fc fm_no <| fc (fm_iceq _) <| fc fm_no <| fc fm_no <| fc (fm_push _ _) <| fc fm_zret <| fc (fm_aload _ _) <| fc (fm_aload _ _) <| fc (fm_iload _ _) <| fc (fm_push _ _) <| fc (fm_bin _) <| fc fm_sald <| fc (fm_call _ _ _ (fm_scallI _ _)) <| fc fm_no <| fc fm_no <| fc (fm_aload _ _) <| fc (fm_aload _ _) <| fc (fm_iload _ _) <| fc (fm_push _ _) <| fc (fm_bin _) <| fc fm_sald <| fc (fm_call _ _ _ (fm_scallI _ _)) <| fc fm_no <| fc fm_no <| fc (fm_iceq _) <| fc fm_no <| fc fm_no <| fc (fm_push _ _) <| fc fm_zret <| fc (fm_iinc _ _) <| fc fm_no <| fc fm_no <| fc (fm_goto _) <| fc fm_no <| fc fm_no <| fc (fm_push _ _) <| fc fm_zret <| fc_0
def codesL : List (List Step) := [k0, k1, k2, k3, k4, k5, k6, k7, k8, k9, k10, k11, k12, k13, k14, k15, k16, k17, k18, k19, k20, k21, k22, k23, k24, k25, k26, k27, k28, k29, k30, k31, k32, k33, k34, k35, k36, k37, k38, k39, k40, k41, k42, k43, k44, k45, k46, k47, k48, k49, k50, k51, k52, k53, k54, k55, k56, k57, k58, k59, k60, k61, k62, k63, k64, k65, k66, k67, k68, k69, k70, k71, k72, k73, k74, k75, k76, k77, k78, k79, k80, k81, k82, k83, k84, k85, k86, k87, k88, k89, k90, k91, k92, k93, k94, k95, k96, k97, k98, k99, k100, k101, k102, k103, k104, k105, k106, k107, k108, k109, k110, k111, k112, k113, k114, k115, k116, k117, k118, k119, k120, k121, k122, k123, k124, k125, k126, k127, k128, k129, k130, k131]
def cdm (m : Nat) : List Step := codesL.getD m []
def nlL : List Nat := [1, 2, 4, 3, 3, 2, 2, 2, 5, 7, 6, 8, 1, 10, 2, 1, 2, 1, 2, 4, 7, 2, 3, 4, 4, 7, 4, 4, 6, 7, 1, 1, 2, 2, 2, 1, 1, 2, 3, 3, 2, 2, 2, 2, 2, 2, 2, 2, 2, 3, 4, 2, 2, 1, 2, 1, 6, 4, 3, 2, 1, 7, 2, 5, 4, 2, 4, 5, 2, 4, 9, 1, 1, 2, 2, 5, 4, 2, 1, 3, 2, 2, 3, 2, 2, 2, 1, 5, 5, 2, 1, 3, 2, 5, 2, 6, 4, 3, 2, 2, 2, 2, 3, 3, 2, 4, 4, 2, 2, 2, 4, 5, 5, 5, 4, 6, 4, 3, 3, 5, 9, 2, 3, 4, 2, 6, 2, 10, 2, 2, 2, 4]
def nlm (m : Nat) : Nat := nlL.getD m 0
theorem fL_0 : ∀ l ∈ ([] : List (List Step)), ∀ s ∈ l, Form s := fun _ h => absurd h List.not_mem_nil
theorem fL {a : List Step} {l : List (List Step)} (h : ∀ s ∈ a, Form s) (t : ∀ x ∈ l, ∀ s ∈ x, Form s) : ∀ x ∈ a :: l, ∀ s ∈ x, Form s := List.forall_mem_cons.mpr ⟨h, t⟩
set_option maxRecDepth 100000 in
theorem fAll : ∀ l ∈ codesL, ∀ s ∈ l, Form s := fL f0 <| fL f1 <| fL f2 <| fL f3 <| fL f4 <| fL f5 <| fL f6 <| fL f7 <| fL f8 <| fL f9 <| fL f10 <| fL f11 <| fL f12 <| fL f13 <| fL f14 <| fL f15 <| fL f16 <| fL f17 <| fL f18 <| fL f19 <| fL f20 <| fL f21 <| fL f22 <| fL f23 <| fL f24 <| fL f25 <| fL f26 <| fL f27 <| fL f28 <| fL f29 <| fL f30 <| fL f31 <| fL f32 <| fL f33 <| fL f34 <| fL f35 <| fL f36 <| fL f37 <| fL f38 <| fL f39 <| fL f40 <| fL f41 <| fL f42 <| fL f43 <| fL f44 <| fL f45 <| fL f46 <| fL f47 <| fL f48 <| fL f49 <| fL f50 <| fL f51 <| fL f52 <| fL f53 <| fL f54 <| fL f55 <| fL f56 <| fL f57 <| fL f58 <| fL f59 <| fL f60 <| fL f61 <| fL f62 <| fL f63 <| fL f64 <| fL f65 <| fL f66 <| fL f67 <| fL f68 <| fL f69 <| fL f70 <| fL f71 <| fL f72 <| fL f73 <| fL f74 <| fL f75 <| fL f76 <| fL f77 <| fL f78 <| fL f79 <| fL f80 <| fL f81 <| fL f82 <| fL f83 <| fL f84 <| fL f85 <| fL f86 <| fL f87 <| fL f88 <| fL f89 <| fL f90 <| fL f91 <| fL f92 <| fL f93 <| fL f94 <| fL f95 <| fL f96 <| fL f97 <| fL f98 <| fL f99 <| fL f100 <| fL f101 <| fL f102 <| fL f103 <| fL f104 <| fL f105 <| fL f106 <| fL f107 <| fL f108 <| fL f109 <| fL f110 <| fL f111 <| fL f112 <| fL f113 <| fL f114 <| fL f115 <| fL f116 <| fL f117 <| fL f118 <| fL f119 <| fL f120 <| fL f121 <| fL f122 <| fL f123 <| fL f124 <| fL f125 <| fL f126 <| fL f127 <| fL f128 <| fL f129 <| fL f130 <| fL f131 <| fL_0
theorem hF : ∀ (m pc : Nat) (f : Step), (cdm m)[pc]? = some f → Form f := by
  intro m pc f h
  unfold cdm at h
  rw [List.getD_eq_getElem?_getD] at h
  cases e : codesL[m]? with
  | none => rw [e] at h; cases h
  | some l =>
    rw [e] at h
    exact fAll l (List.mem_of_getElem? e) f (List.mem_of_getElem? h)
noncomputable def Run (m pc : Nat) (ls st : List AV) (σ : Sg) : Res := RunF cdm nlm hF m pc ls st σ
noncomputable def Cal (m : Nat) (as : List AV) (σ : Sg) : Res := Run m 0 (ent (nlm m) as) [] σ
theorem Run_unr (stop : List Nat) (m n pc : Nat) (ls st : List AV) (σ : Sg) : Run m pc ls st σ = unr (cdm m) stop Cal (Run m) n pc ls st σ := RunF_unr stop m n pc ls st σ
end
section
-- begun with the kit's SKELETON (PART A) and the printed NAMES
-- ===== PART A: goes FIRST, ahead of the names: the tables' words, and 'selects' of the private methods out of them =====
/-- a private method of a class that the tables say can be made, by its rows of tables_1 -/
def lw_okq (q : MethodName × Nat) : Prop := (q.1.cls ≠ "java/lang/invoke/MethodHandle" ∧ q.1.cls ≠ "java/lang/invoke/VarHandle") ∧ Cond.instantiable q.1.cls q.2 ∈ tables_1 ∧ Cond.privateMethod q.1 ∈ tables_1 ∧ Cond.instanceMethod q.1 ∈ tables_1
theorem lw_p0 : lw_okq (⟨"SecondOboe", "layText", "()Z"⟩, 17) := ⟨⟨by decide +kernel, by decide +kernel⟩, List.mem_of_getElem? (i := 16) (by decide +kernel), List.mem_of_getElem? (i := 229) (by decide +kernel), List.mem_of_getElem? (i := 230) (by decide +kernel)⟩
theorem lw_p1 : lw_okq (⟨"SecondOboe$Reader", "endOfItem", "(I)I"⟩, 4) := ⟨⟨by decide +kernel, by decide +kernel⟩, List.mem_of_getElem? (i := 24) (by decide +kernel), List.mem_of_getElem? (i := 241) (by decide +kernel), List.mem_of_getElem? (i := 242) (by decide +kernel)⟩
theorem lw_p2 : lw_okq (⟨"SecondOboe$Reader", "figuresAt", "(I)I"⟩, 4) := ⟨⟨by decide +kernel, by decide +kernel⟩, List.mem_of_getElem? (i := 24) (by decide +kernel), List.mem_of_getElem? (i := 248) (by decide +kernel), List.mem_of_getElem? (i := 249) (by decide +kernel)⟩
theorem lw_p3 : lw_okq (⟨"SecondOboe$Reader", "letterAt", "(I)C"⟩, 4) := ⟨⟨by decide +kernel, by decide +kernel⟩, List.mem_of_getElem? (i := 24) (by decide +kernel), List.mem_of_getElem? (i := 252) (by decide +kernel), List.mem_of_getElem? (i := 253) (by decide +kernel)⟩
theorem lw_p4 : lw_okq (⟨"SecondOboe$Reader", "numberAt", "(II)I"⟩, 4) := ⟨⟨by decide +kernel, by decide +kernel⟩, List.mem_of_getElem? (i := 24) (by decide +kernel), List.mem_of_getElem? (i := 259) (by decide +kernel), List.mem_of_getElem? (i := 260) (by decide +kernel)⟩
theorem lw_p5 : lw_okq (⟨"SecondOboe$Reader", "takeItem", "(I)Z"⟩, 4) := ⟨⟨by decide +kernel, by decide +kernel⟩, List.mem_of_getElem? (i := 24) (by decide +kernel), List.mem_of_getElem? (i := 263) (by decide +kernel), List.mem_of_getElem? (i := 264) (by decide +kernel)⟩
theorem lw_p6 : lw_okq (⟨"SecondOboe$Band", "toldSet", "()I"⟩, 9) := ⟨⟨by decide +kernel, by decide +kernel⟩, List.mem_of_getElem? (i := 30) (by decide +kernel), List.mem_of_getElem? (i := 279) (by decide +kernel), List.mem_of_getElem? (i := 280) (by decide +kernel)⟩
theorem lw_p7 : lw_okq (⟨"SecondOboe", "settle", "()V"⟩, 17) := ⟨⟨by decide +kernel, by decide +kernel⟩, List.mem_of_getElem? (i := 16) (by decide +kernel), List.mem_of_getElem? (i := 302) (by decide +kernel), List.mem_of_getElem? (i := 303) (by decide +kernel)⟩
theorem lw_p8 : lw_okq (⟨"SecondOboe$Evening", "lookAround", "(I[II)V"⟩, 4) := ⟨⟨by decide +kernel, by decide +kernel⟩, List.mem_of_getElem? (i := 98) (by decide +kernel), List.mem_of_getElem? (i := 310) (by decide +kernel), List.mem_of_getElem? (i := 311) (by decide +kernel)⟩
theorem lw_p9 : lw_okq (⟨"SecondOboe$Evening", "comeAnyway", "(LSecondOboe$Band;I)I"⟩, 4) := ⟨⟨by decide +kernel, by decide +kernel⟩, List.mem_of_getElem? (i := 98) (by decide +kernel), List.mem_of_getElem? (i := 314) (by decide +kernel), List.mem_of_getElem? (i := 315) (by decide +kernel)⟩
theorem lw_p10 : lw_okq (⟨"SecondOboe$Evening", "comeAfter", "(LSecondOboe$Band;II)I"⟩, 4) := ⟨⟨by decide +kernel, by decide +kernel⟩, List.mem_of_getElem? (i := 98) (by decide +kernel), List.mem_of_getElem? (i := 318) (by decide +kernel), List.mem_of_getElem? (i := 319) (by decide +kernel)⟩
theorem lw_p11 : lw_okq (⟨"SecondOboe", "isInstrument", "(I)Z"⟩, 17) := ⟨⟨by decide +kernel, by decide +kernel⟩, List.mem_of_getElem? (i := 16) (by decide +kernel), List.mem_of_getElem? (i := 401) (by decide +kernel), List.mem_of_getElem? (i := 402) (by decide +kernel)⟩
theorem lw_p12 : lw_okq (⟨"SecondOboe", "seatOf", "(I)I"⟩, 17) := ⟨⟨by decide +kernel, by decide +kernel⟩, List.mem_of_getElem? (i := 16) (by decide +kernel), List.mem_of_getElem? (i := 405) (by decide +kernel), List.mem_of_getElem? (i := 406) (by decide +kernel)⟩
theorem lw_p13 : lw_okq (⟨"SecondOboe", "isBar", "(I)Z"⟩, 17) := ⟨⟨by decide +kernel, by decide +kernel⟩, List.mem_of_getElem? (i := 16) (by decide +kernel), List.mem_of_getElem? (i := 417) (by decide +kernel), List.mem_of_getElem? (i := 418) (by decide +kernel)⟩
theorem lw_p14 : lw_okq (⟨"SecondOboe", "missingIn", "(I)I"⟩, 17) := ⟨⟨by decide +kernel, by decide +kernel⟩, List.mem_of_getElem? (i := 16) (by decide +kernel), List.mem_of_getElem? (i := 429) (by decide +kernel), List.mem_of_getElem? (i := 430) (by decide +kernel)⟩
theorem lw_p15 : lw_okq (⟨"SecondOboe", "remember", "(I)V"⟩, 17) := ⟨⟨by decide +kernel, by decide +kernel⟩, List.mem_of_getElem? (i := 16) (by decide +kernel), List.mem_of_getElem? (i := 445) (by decide +kernel), List.mem_of_getElem? (i := 446) (by decide +kernel)⟩
def lw_privs_1 : List (MethodName × Nat) := [(⟨"SecondOboe", "layText", "()Z"⟩, 17), (⟨"SecondOboe$Reader", "endOfItem", "(I)I"⟩, 4), (⟨"SecondOboe$Reader", "figuresAt", "(I)I"⟩, 4), (⟨"SecondOboe$Reader", "letterAt", "(I)C"⟩, 4), (⟨"SecondOboe$Reader", "numberAt", "(II)I"⟩, 4), (⟨"SecondOboe$Reader", "takeItem", "(I)Z"⟩, 4), (⟨"SecondOboe$Band", "toldSet", "()I"⟩, 9), (⟨"SecondOboe", "settle", "()V"⟩, 17), (⟨"SecondOboe$Evening", "lookAround", "(I[II)V"⟩, 4), (⟨"SecondOboe$Evening", "comeAnyway", "(LSecondOboe$Band;I)I"⟩, 4), (⟨"SecondOboe$Evening", "comeAfter", "(LSecondOboe$Band;II)I"⟩, 4), (⟨"SecondOboe", "isInstrument", "(I)Z"⟩, 17), (⟨"SecondOboe", "seatOf", "(I)I"⟩, 17), (⟨"SecondOboe", "isBar", "(I)Z"⟩, 17), (⟨"SecondOboe", "missingIn", "(I)I"⟩, 17), (⟨"SecondOboe", "remember", "(I)V"⟩, 17)]
theorem lw_r1 : ∀ q ∈ lw_privs_1, lw_okq q := List.forall_mem_cons.mpr ⟨lw_p0, List.forall_mem_cons.mpr ⟨lw_p1, List.forall_mem_cons.mpr ⟨lw_p2, List.forall_mem_cons.mpr ⟨lw_p3, List.forall_mem_cons.mpr ⟨lw_p4, List.forall_mem_cons.mpr ⟨lw_p5, List.forall_mem_cons.mpr ⟨lw_p6, List.forall_mem_cons.mpr ⟨lw_p7, List.forall_mem_cons.mpr ⟨lw_p8, List.forall_mem_cons.mpr ⟨lw_p9, List.forall_mem_cons.mpr ⟨lw_p10, List.forall_mem_cons.mpr ⟨lw_p11, List.forall_mem_cons.mpr ⟨lw_p12, List.forall_mem_cons.mpr ⟨lw_p13, List.forall_mem_cons.mpr ⟨lw_p14, List.forall_mem_cons.mpr ⟨lw_p15, fun _ h => absurd h List.not_mem_nil⟩⟩⟩⟩⟩⟩⟩⟩⟩⟩⟩⟩⟩⟩⟩⟩
theorem lw_p16 : lw_okq (⟨"SecondOboe", "priceOf", "(I)I"⟩, 17) := ⟨⟨by decide +kernel, by decide +kernel⟩, List.mem_of_getElem? (i := 16) (by decide +kernel), List.mem_of_getElem? (i := 457) (by decide +kernel), List.mem_of_getElem? (i := 458) (by decide +kernel)⟩
theorem lw_p17 : lw_okq (⟨"SecondOboe", "surveyed", "()LSecondOboe$Survey;"⟩, 17) := ⟨⟨by decide +kernel, by decide +kernel⟩, List.mem_of_getElem? (i := 16) (by decide +kernel), List.mem_of_getElem? (i := 469) (by decide +kernel), List.mem_of_getElem? (i := 470) (by decide +kernel)⟩
theorem lw_p18 : lw_okq (⟨"SecondOboe$Survey", "begin", "(I[I)V"⟩, 11) := ⟨⟨by decide +kernel, by decide +kernel⟩, List.mem_of_getElem? (i := 124) (by decide +kernel), List.mem_of_getElem? (i := 477) (by decide +kernel), List.mem_of_getElem? (i := 478) (by decide +kernel)⟩
theorem lw_p19 : lw_okq (⟨"SecondOboe$Survey", "changesToTrial", "(I)I"⟩, 11) := ⟨⟨by decide +kernel, by decide +kernel⟩, List.mem_of_getElem? (i := 124) (by decide +kernel), List.mem_of_getElem? (i := 486) (by decide +kernel), List.mem_of_getElem? (i := 487) (by decide +kernel)⟩
theorem lw_p20 : lw_okq (⟨"SecondOboe$Survey", "soundsAlike", "(ILSecondOboe$Evening;)Z"⟩, 11) := ⟨⟨by decide +kernel, by decide +kernel⟩, List.mem_of_getElem? (i := 124) (by decide +kernel), List.mem_of_getElem? (i := 493) (by decide +kernel), List.mem_of_getElem? (i := 494) (by decide +kernel)⟩
theorem lw_p21 : lw_okq (⟨"SecondOboe$Survey", "goToNextSeating", "(I)V"⟩, 11) := ⟨⟨by decide +kernel, by decide +kernel⟩, List.mem_of_getElem? (i := 124) (by decide +kernel), List.mem_of_getElem? (i := 497) (by decide +kernel), List.mem_of_getElem? (i := 498) (by decide +kernel)⟩
theorem lw_p22 : lw_okq (⟨"SecondOboe", "agreesWithHeard", "(ILSecondOboe$Evening;)Z"⟩, 17) := ⟨⟨by decide +kernel, by decide +kernel⟩, List.mem_of_getElem? (i := 16) (by decide +kernel), List.mem_of_getElem? (i := 550) (by decide +kernel), List.mem_of_getElem? (i := 551) (by decide +kernel)⟩
theorem lw_p23 : lw_okq (⟨"SecondOboeModel", "begins", "()V"⟩, 21) := ⟨⟨by decide +kernel, by decide +kernel⟩, List.mem_of_getElem? (i := 584) (by decide +kernel), List.mem_of_getElem? (i := 590) (by decide +kernel), List.mem_of_getElem? (i := 591) (by decide +kernel)⟩
theorem lw_p24 : lw_okq (⟨"SecondOboeModel", "adds", "(III)V"⟩, 21) := ⟨⟨by decide +kernel, by decide +kernel⟩, List.mem_of_getElem? (i := 584) (by decide +kernel), List.mem_of_getElem? (i := 594) (by decide +kernel), List.mem_of_getElem? (i := 595) (by decide +kernel)⟩
theorem lw_p25 : lw_okq (⟨"SecondOboeModel", "sits", "(I)V"⟩, 21) := ⟨⟨by decide +kernel, by decide +kernel⟩, List.mem_of_getElem? (i := 584) (by decide +kernel), List.mem_of_getElem? (i := 598) (by decide +kernel), List.mem_of_getElem? (i := 599) (by decide +kernel)⟩
theorem lw_p26 : lw_okq (⟨"SecondOboeModel", "lays", "()V"⟩, 21) := ⟨⟨by decide +kernel, by decide +kernel⟩, List.mem_of_getElem? (i := 584) (by decide +kernel), List.mem_of_getElem? (i := 602) (by decide +kernel), List.mem_of_getElem? (i := 603) (by decide +kernel)⟩
theorem lw_p27 : lw_okq (⟨"SecondOboeModel", "reads", "()I"⟩, 21) := ⟨⟨by decide +kernel, by decide +kernel⟩, List.mem_of_getElem? (i := 584) (by decide +kernel), List.mem_of_getElem? (i := 685) (by decide +kernel), List.mem_of_getElem? (i := 686) (by decide +kernel)⟩
theorem lw_p28 : lw_okq (⟨"SecondOboeModel", "readsItem", "(I)Z"⟩, 21) := ⟨⟨by decide +kernel, by decide +kernel⟩, List.mem_of_getElem? (i := 584) (by decide +kernel), List.mem_of_getElem? (i := 689) (by decide +kernel), List.mem_of_getElem? (i := 690) (by decide +kernel)⟩
theorem lw_p29 : lw_okq (⟨"SecondOboeModel", "number", "(II)I"⟩, 21) := ⟨⟨by decide +kernel, by decide +kernel⟩, List.mem_of_getElem? (i := 584) (by decide +kernel), List.mem_of_getElem? (i := 693) (by decide +kernel), List.mem_of_getElem? (i := 694) (by decide +kernel)⟩
theorem lw_p30 : lw_okq (⟨"SecondOboeModel", "letterAt", "(I)I"⟩, 21) := ⟨⟨by decide +kernel, by decide +kernel⟩, List.mem_of_getElem? (i := 584) (by decide +kernel), List.mem_of_getElem? (i := 697) (by decide +kernel), List.mem_of_getElem? (i := 698) (by decide +kernel)⟩
theorem lw_p31 : lw_okq (⟨"SecondOboeModel", "isOne", "(I)Z"⟩, 21) := ⟨⟨by decide +kernel, by decide +kernel⟩, List.mem_of_getElem? (i := 584) (by decide +kernel), List.mem_of_getElem? (i := 712) (by decide +kernel), List.mem_of_getElem? (i := 713) (by decide +kernel)⟩
def lw_privs_2 : List (MethodName × Nat) := [(⟨"SecondOboe", "priceOf", "(I)I"⟩, 17), (⟨"SecondOboe", "surveyed", "()LSecondOboe$Survey;"⟩, 17), (⟨"SecondOboe$Survey", "begin", "(I[I)V"⟩, 11), (⟨"SecondOboe$Survey", "changesToTrial", "(I)I"⟩, 11), (⟨"SecondOboe$Survey", "soundsAlike", "(ILSecondOboe$Evening;)Z"⟩, 11), (⟨"SecondOboe$Survey", "goToNextSeating", "(I)V"⟩, 11), (⟨"SecondOboe", "agreesWithHeard", "(ILSecondOboe$Evening;)Z"⟩, 17), (⟨"SecondOboeModel", "begins", "()V"⟩, 21), (⟨"SecondOboeModel", "adds", "(III)V"⟩, 21), (⟨"SecondOboeModel", "sits", "(I)V"⟩, 21), (⟨"SecondOboeModel", "lays", "()V"⟩, 21), (⟨"SecondOboeModel", "reads", "()I"⟩, 21), (⟨"SecondOboeModel", "readsItem", "(I)Z"⟩, 21), (⟨"SecondOboeModel", "number", "(II)I"⟩, 21), (⟨"SecondOboeModel", "letterAt", "(I)I"⟩, 21), (⟨"SecondOboeModel", "isOne", "(I)Z"⟩, 21)]
theorem lw_r2 : ∀ q ∈ lw_privs_2, lw_okq q := List.forall_mem_cons.mpr ⟨lw_p16, List.forall_mem_cons.mpr ⟨lw_p17, List.forall_mem_cons.mpr ⟨lw_p18, List.forall_mem_cons.mpr ⟨lw_p19, List.forall_mem_cons.mpr ⟨lw_p20, List.forall_mem_cons.mpr ⟨lw_p21, List.forall_mem_cons.mpr ⟨lw_p22, List.forall_mem_cons.mpr ⟨lw_p23, List.forall_mem_cons.mpr ⟨lw_p24, List.forall_mem_cons.mpr ⟨lw_p25, List.forall_mem_cons.mpr ⟨lw_p26, List.forall_mem_cons.mpr ⟨lw_p27, List.forall_mem_cons.mpr ⟨lw_p28, List.forall_mem_cons.mpr ⟨lw_p29, List.forall_mem_cons.mpr ⟨lw_p30, List.forall_mem_cons.mpr ⟨lw_p31, fun _ h => absurd h List.not_mem_nil⟩⟩⟩⟩⟩⟩⟩⟩⟩⟩⟩⟩⟩⟩⟩⟩
theorem lw_p32 : lw_okq (⟨"SecondOboeModel", "asItIs", "()V"⟩, 21) := ⟨⟨by decide +kernel, by decide +kernel⟩, List.mem_of_getElem? (i := 584) (by decide +kernel), List.mem_of_getElem? (i := 716) (by decide +kernel), List.mem_of_getElem? (i := 717) (by decide +kernel)⟩
theorem lw_p33 : lw_okq (⟨"SecondOboeModel", "goes", "()I"⟩, 21) := ⟨⟨by decide +kernel, by decide +kernel⟩, List.mem_of_getElem? (i := 584) (by decide +kernel), List.mem_of_getElem? (i := 720) (by decide +kernel), List.mem_of_getElem? (i := 721) (by decide +kernel)⟩
theorem lw_p34 : lw_okq (⟨"SecondOboeModel", "askedIn", "(I)I"⟩, 21) := ⟨⟨by decide +kernel, by decide +kernel⟩, List.mem_of_getElem? (i := 584) (by decide +kernel), List.mem_of_getElem? (i := 724) (by decide +kernel), List.mem_of_getElem? (i := 725) (by decide +kernel)⟩
theorem lw_p35 : lw_okq (⟨"SecondOboeModel", "wants", "(III)Z"⟩, 21) := ⟨⟨by decide +kernel, by decide +kernel⟩, List.mem_of_getElem? (i := 584) (by decide +kernel), List.mem_of_getElem? (i := 728) (by decide +kernel), List.mem_of_getElem? (i := 729) (by decide +kernel)⟩
theorem lw_p36 : lw_okq (⟨"SecondOboeModel", "seatOf", "(I)I"⟩, 21) := ⟨⟨by decide +kernel, by decide +kernel⟩, List.mem_of_getElem? (i := 584) (by decide +kernel), List.mem_of_getElem? (i := 735) (by decide +kernel), List.mem_of_getElem? (i := 736) (by decide +kernel)⟩
theorem lw_p37 : lw_okq (⟨"SecondOboeModel", "isBar", "(I)Z"⟩, 21) := ⟨⟨by decide +kernel, by decide +kernel⟩, List.mem_of_getElem? (i := 584) (by decide +kernel), List.mem_of_getElem? (i := 747) (by decide +kernel), List.mem_of_getElem? (i := 748) (by decide +kernel)⟩
theorem lw_p38 : lw_okq (⟨"SecondOboeModel", "keeps", "()V"⟩, 21) := ⟨⟨by decide +kernel, by decide +kernel⟩, List.mem_of_getElem? (i := 584) (by decide +kernel), List.mem_of_getElem? (i := 772) (by decide +kernel), List.mem_of_getElem? (i := 773) (by decide +kernel)⟩
theorem lw_p39 : lw_okq (⟨"SecondOboeModel", "costOf", "(I)I"⟩, 21) := ⟨⟨by decide +kernel, by decide +kernel⟩, List.mem_of_getElem? (i := 584) (by decide +kernel), List.mem_of_getElem? (i := 780) (by decide +kernel), List.mem_of_getElem? (i := 781) (by decide +kernel)⟩
theorem lw_p40 : lw_okq (⟨"SecondOboeModel", "firstSeating", "()V"⟩, 21) := ⟨⟨by decide +kernel, by decide +kernel⟩, List.mem_of_getElem? (i := 584) (by decide +kernel), List.mem_of_getElem? (i := 792) (by decide +kernel), List.mem_of_getElem? (i := 793) (by decide +kernel)⟩
theorem lw_p41 : lw_okq (⟨"SecondOboeModel", "nextSeating", "()Z"⟩, 21) := ⟨⟨by decide +kernel, by decide +kernel⟩, List.mem_of_getElem? (i := 584) (by decide +kernel), List.mem_of_getElem? (i := 796) (by decide +kernel), List.mem_of_getElem? (i := 797) (by decide +kernel)⟩
theorem lw_p42 : lw_okq (⟨"SecondOboeModel", "swaps", "(II)V"⟩, 21) := ⟨⟨by decide +kernel, by decide +kernel⟩, List.mem_of_getElem? (i := 584) (by decide +kernel), List.mem_of_getElem? (i := 800) (by decide +kernel), List.mem_of_getElem? (i := 801) (by decide +kernel)⟩
theorem lw_p43 : lw_okq (⟨"SecondOboeModel", "far", "()I"⟩, 21) := ⟨⟨by decide +kernel, by decide +kernel⟩, List.mem_of_getElem? (i := 584) (by decide +kernel), List.mem_of_getElem? (i := 808) (by decide +kernel), List.mem_of_getElem? (i := 809) (by decide +kernel)⟩
theorem lw_p44 : lw_okq (⟨"SecondOboeModel", "share", "(II)I"⟩, 21) := ⟨⟨by decide +kernel, by decide +kernel⟩, List.mem_of_getElem? (i := 584) (by decide +kernel), List.mem_of_getElem? (i := 836) (by decide +kernel), List.mem_of_getElem? (i := 837) (by decide +kernel)⟩
def lw_privs_3 : List (MethodName × Nat) := [(⟨"SecondOboeModel", "asItIs", "()V"⟩, 21), (⟨"SecondOboeModel", "goes", "()I"⟩, 21), (⟨"SecondOboeModel", "askedIn", "(I)I"⟩, 21), (⟨"SecondOboeModel", "wants", "(III)Z"⟩, 21), (⟨"SecondOboeModel", "seatOf", "(I)I"⟩, 21), (⟨"SecondOboeModel", "isBar", "(I)Z"⟩, 21), (⟨"SecondOboeModel", "keeps", "()V"⟩, 21), (⟨"SecondOboeModel", "costOf", "(I)I"⟩, 21), (⟨"SecondOboeModel", "firstSeating", "()V"⟩, 21), (⟨"SecondOboeModel", "nextSeating", "()Z"⟩, 21), (⟨"SecondOboeModel", "swaps", "(II)V"⟩, 21), (⟨"SecondOboeModel", "far", "()I"⟩, 21), (⟨"SecondOboeModel", "share", "(II)I"⟩, 21)]
theorem lw_r3 : ∀ q ∈ lw_privs_3, lw_okq q := List.forall_mem_cons.mpr ⟨lw_p32, List.forall_mem_cons.mpr ⟨lw_p33, List.forall_mem_cons.mpr ⟨lw_p34, List.forall_mem_cons.mpr ⟨lw_p35, List.forall_mem_cons.mpr ⟨lw_p36, List.forall_mem_cons.mpr ⟨lw_p37, List.forall_mem_cons.mpr ⟨lw_p38, List.forall_mem_cons.mpr ⟨lw_p39, List.forall_mem_cons.mpr ⟨lw_p40, List.forall_mem_cons.mpr ⟨lw_p41, List.forall_mem_cons.mpr ⟨lw_p42, List.forall_mem_cons.mpr ⟨lw_p43, List.forall_mem_cons.mpr ⟨lw_p44, fun _ h => absurd h List.not_mem_nil⟩⟩⟩⟩⟩⟩⟩⟩⟩⟩⟩⟩⟩
def lw_privs : List (MethodName × Nat) := lw_privs_1 ++ (lw_privs_2 ++ (lw_privs_3))
def lw_tbl : List Cond := k2_sels lw_privs ++ tables_1
theorem lw_privs_ok : ∀ q ∈ lw_privs, lw_okq q := by
  show ∀ q ∈ lw_privs_1 ++ (lw_privs_2 ++ (lw_privs_3)), lw_okq q
  exact List.forall_mem_append.mpr ⟨lw_r1, List.forall_mem_append.mpr ⟨lw_r2, lw_r3⟩⟩
def RX0 : String := "SecondOboe$Band"
def TX0 : u_T := fun k => match k with
  | 0 => ("SecondOboe$Band", "kind", "[I", true)
  | 1 => ("SecondOboe$Band", "minds", "[I", true)
  | 2 => ("SecondOboe$Band", "price", "[I", true)
  | 3 => ("SecondOboe$Band", "size", "I", false)
  | 4 => ("SecondOboe$Band", "asks", "[I", true)
  | 5 => ("SecondOboe$Band", "bars", "I", false)
  | 6 => ("SecondOboe$Band", "toldToSit", "[I", true)
  | 7 => ("SecondOboe$Band", "toldSeats", "I", false)
  | _ => ("SecondOboe$Band", "gaps", "I", false)
def tyX0 : Nat → FieldType := fun k => match k with
  | 0 => .array .int
  | 1 => .array .int
  | 2 => .array .int
  | 3 => .int
  | 4 => .array .int
  | 5 => .int
  | 6 => .array .int
  | 7 => .int
  | _ => .int
abbrev wsX00 : List Cond := u_ws RX0 TX0 9
theorem nmX0 : ∀ a, a < 9 → ∀ b, b < 9 → a ≠ b → (TX0 a).2.1 ≠ (TX0 b).2.1 := by decide +kernel
theorem tyX0_ok : ∀ k, k < 9 → parseFieldDescriptor (TX0 k).2.2.1 = some (tyX0 k) := by decide +kernel
abbrev cX0_init : ByteArray := prog_2_method_1_code
def yX0_init : MethodName := ⟨RX0, "<init>", "()V"⟩
abbrev cX0_clear : ByteArray := prog_2_method_2_code
def yX0_clear : MethodName := ⟨RX0, "clear", "()V"⟩
abbrev cX0_copyFrom : ByteArray := prog_2_method_3_code
def yX0_copyFrom : MethodName := ⟨RX0, "copyFrom", "(LSecondOboe$Band;)V"⟩
abbrev cX0_addInstrument : ByteArray := prog_2_method_4_code
def yX0_addInstrument : MethodName := ⟨RX0, "addInstrument", "(III)Z"⟩
abbrev cX0_addBar : ByteArray := prog_2_method_5_code
def yX0_addBar : MethodName := ⟨RX0, "addBar", "(II)Z"⟩
abbrev cX0_addSeat : ByteArray := prog_2_method_6_code
def yX0_addSeat : MethodName := ⟨RX0, "addSeat", "(I)Z"⟩
abbrev cX0_addGap : ByteArray := prog_2_method_7_code
def yX0_addGap : MethodName := ⟨RX0, "addGap", "(I)Z"⟩
abbrev cX0_hasAllItNames : ByteArray := prog_2_method_8_code
def yX0_hasAllItNames : MethodName := ⟨RX0, "hasAllItNames", "()Z"⟩
abbrev cX0_seatAll : ByteArray := prog_2_method_9_code
def yX0_seatAll : MethodName := ⟨RX0, "seatAll", "([I)V"⟩
abbrev cX0_toldSet : ByteArray := prog_2_method_10_code
def yX0_toldSet : MethodName := ⟨RX0, "toldSet", "()I"⟩
def RX1 : String := "SecondOboe$Evening"
def TX1 : u_T := fun k => match k with
  | 0 => ("SecondOboe$Evening", "beside", "[I", true)
  | 1 => ("SecondOboe$Evening", "played", "[I", true)
  | 2 => ("SecondOboe$Evening", "sounded", "I", false)
  | _ => ("SecondOboe$Evening", "wholeBars", "I", false)
def tyX1 : Nat → FieldType := fun k => match k with
  | 0 => .array .int
  | 1 => .array .int
  | 2 => .int
  | _ => .int
abbrev wsX10 : List Cond := u_ws RX1 TX1 4
theorem nmX1 : ∀ a, a < 4 → ∀ b, b < 4 → a ≠ b → (TX1 a).2.1 ≠ (TX1 b).2.1 := by decide +kernel
theorem tyX1_ok : ∀ k, k < 4 → parseFieldDescriptor (TX1 k).2.2.1 = some (tyX1 k) := by decide +kernel
abbrev cX1_init : ByteArray := prog_3_method_1_code
def yX1_init : MethodName := ⟨RX1, "<init>", "()V"⟩
abbrev cX1_playAll : ByteArray := prog_3_method_2_code
def yX1_playAll : MethodName := ⟨RX1, "playAll", "(LSecondOboe$Band;[IIII)V"⟩
abbrev cX1_lookAround : ByteArray := prog_3_method_3_code
def yX1_lookAround : MethodName := ⟨RX1, "lookAround", "(I[II)V"⟩
abbrev cX1_comeAnyway : ByteArray := prog_3_method_4_code
def yX1_comeAnyway : MethodName := ⟨RX1, "comeAnyway", "(LSecondOboe$Band;I)I"⟩
abbrev cX1_comeAfter : ByteArray := prog_3_method_5_code
def yX1_comeAfter : MethodName := ⟨RX1, "comeAfter", "(LSecondOboe$Band;II)I"⟩
def RX2 : String := "SecondOboe$Reader"
def TX2 : u_T := fun k => match k with
  | 0 => ("SecondOboe$Reader", "draft", "LSecondOboe$Band;", true)
  | 1 => ("SecondOboe$Reader", "length", "I", false)
  | 2 => ("SecondOboe$Reader", "letters", "[C", true)
  | _ => ("SecondOboe$Reader", "numbers", "[I", true)
def tyX2 : Nat → FieldType := fun k => match k with
  | 0 => .object "SecondOboe$Band"
  | 1 => .int
  | 2 => .array .char
  | _ => .array .int
abbrev wsX20 : List Cond := u_ws RX2 TX2 4
theorem nmX2 : ∀ a, a < 4 → ∀ b, b < 4 → a ≠ b → (TX2 a).2.1 ≠ (TX2 b).2.1 := by decide +kernel
theorem tyX2_ok : ∀ k, k < 4 → parseFieldDescriptor (TX2 k).2.2.1 = some (tyX2 k) := by decide +kernel
abbrev cX2_init : ByteArray := prog_4_method_1_code
def yX2_init : MethodName := ⟨RX2, "<init>", "()V"⟩
abbrev cX2_append : ByteArray := prog_4_method_2_code
def yX2_append : MethodName := ⟨RX2, "append", "(C)Z"⟩
abbrev cX2_readAll : ByteArray := prog_4_method_3_code
def yX2_readAll : MethodName := ⟨RX2, "readAll", "()I"⟩
abbrev cX2_endOfItem : ByteArray := prog_4_method_4_code
def yX2_endOfItem : MethodName := ⟨RX2, "endOfItem", "(I)I"⟩
abbrev cX2_takeItem : ByteArray := prog_4_method_5_code
def yX2_takeItem : MethodName := ⟨RX2, "takeItem", "(I)Z"⟩
abbrev cX2_numbersBehind : ByteArray := prog_4_method_6_code
def yX2_numbersBehind : MethodName := ⟨RX2, "numbersBehind", "(I)I"⟩
abbrev cX2_figuresAt : ByteArray := prog_4_method_7_code
def yX2_figuresAt : MethodName := ⟨RX2, "figuresAt", "(I)I"⟩
abbrev cX2_numberAt : ByteArray := prog_4_method_8_code
def yX2_numberAt : MethodName := ⟨RX2, "numberAt", "(II)I"⟩
abbrev cX2_isFigure : ByteArray := prog_4_method_9_code
def yX2_isFigure : MethodName := ⟨RX2, "isFigure", "(C)Z"⟩
abbrev cX2_letterAt : ByteArray := prog_4_method_10_code
def yX2_letterAt : MethodName := ⟨RX2, "letterAt", "(I)C"⟩
def RX3 : String := "SecondOboe$Survey"
def TX3 : u_T := fun k => match k with
  | 0 => ("SecondOboe$Survey", "fresh", "Z", false)
  | 1 => ("SecondOboe$Survey", "seatings", "I", false)
  | 2 => ("SecondOboe$Survey", "wholeSeatings", "I", false)
  | 3 => ("SecondOboe$Survey", "alikeSeatings", "I", false)
  | 4 => ("SecondOboe$Survey", "fewestChanges", "I", false)
  | 5 => ("SecondOboe$Survey", "mostSounded", "I", false)
  | 6 => ("SecondOboe$Survey", "bestSitting", "[I", true)
  | 7 => ("SecondOboe$Survey", "seatingsBySounded", "[I", true)
  | 8 => ("SecondOboe$Survey", "trial", "[I", true)
  | 9 => ("SecondOboe$Survey", "seatNow", "[I", true)
  | _ => ("SecondOboe$Survey", "there", "LSecondOboe$Evening;", true)
def tyX3 : Nat → FieldType := fun k => match k with
  | 0 => .boolean
  | 1 => .int
  | 2 => .int
  | 3 => .int
  | 4 => .int
  | 5 => .int
  | 6 => .array .int
  | 7 => .array .int
  | 8 => .array .int
  | 9 => .array .int
  | _ => .object "SecondOboe$Evening"
abbrev wsX30 : List Cond := u_ws RX3 TX3 11
theorem nmX3 : ∀ a, a < 11 → ∀ b, b < 11 → a ≠ b → (TX3 a).2.1 ≠ (TX3 b).2.1 := by decide +kernel
theorem tyX3_ok : ∀ k, k < 11 → parseFieldDescriptor (TX3 k).2.2.1 = some (tyX3 k) := by decide +kernel
abbrev cX3_init : ByteArray := prog_5_method_1_code
def yX3_init : MethodName := ⟨RX3, "<init>", "()V"⟩
abbrev cX3_lookAtAll : ByteArray := prog_5_method_2_code
def yX3_lookAtAll : MethodName := ⟨RX3, "lookAtAll", "(LSecondOboe$Band;[IILSecondOboe$Evening;)V"⟩
abbrev cX3_begin : ByteArray := prog_5_method_3_code
def yX3_begin : MethodName := ⟨RX3, "begin", "(I[I)V"⟩
abbrev cX3_soundsAlike : ByteArray := prog_5_method_4_code
def yX3_soundsAlike : MethodName := ⟨RX3, "soundsAlike", "(ILSecondOboe$Evening;)Z"⟩
abbrev cX3_changesToTrial : ByteArray := prog_5_method_5_code
def yX3_changesToTrial : MethodName := ⟨RX3, "changesToTrial", "(I)I"⟩
abbrev cX3_goToNextSeating : ByteArray := prog_5_method_6_code
def yX3_goToNextSeating : MethodName := ⟨RX3, "goToNextSeating", "(I)V"⟩
def RX4 : String := "SecondOboe"
def TX4 : u_T := fun k => match k with
  | 0 => ("SecondOboe", "reader", "LSecondOboe$Reader;", true)
  | 1 => ("SecondOboe", "band", "LSecondOboe$Band;", true)
  | 2 => ("SecondOboe", "sitting", "[I", true)
  | 3 => ("SecondOboe", "bribed", "I", false)
  | 4 => ("SecondOboe", "now", "LSecondOboe$Evening;", true)
  | 5 => ("SecondOboe", "survey", "LSecondOboe$Survey;", true)
  | 6 => ("SecondOboe", "trial", "[I", true)
  | 7 => ("SecondOboe", "other", "LSecondOboe$Evening;", true)
  | 8 => ("SecondOboe", "latest", "[I", true)
  | 9 => ("SecondOboe", "undoable", "I", false)
  | 10 => ("SecondOboe", "heardWho", "[I", true)
  | 11 => ("SecondOboe", "heardBar", "[I", true)
  | 12 => ("SecondOboe", "heardPlayed", "[I", true)
  | 13 => ("SecondOboe", "heardCount", "I", false)
  | 14 => ("SecondOboe", "keptSitting", "[[I", true)
  | 15 => ("SecondOboe", "keptBribed", "[I", true)
  | _ => ("SecondOboe", "keptCount", "I", false)
def tyX4 : Nat → FieldType := fun k => match k with
  | 0 => .object "SecondOboe$Reader"
  | 1 => .object "SecondOboe$Band"
  | 2 => .array .int
  | 3 => .int
  | 4 => .object "SecondOboe$Evening"
  | 5 => .object "SecondOboe$Survey"
  | 6 => .array .int
  | 7 => .object "SecondOboe$Evening"
  | 8 => .array .int
  | 9 => .int
  | 10 => .array .int
  | 11 => .array .int
  | 12 => .array .int
  | 13 => .int
  | 14 => .array (.array .int)
  | 15 => .array .int
  | _ => .int
abbrev wsX40 : List Cond := u_ws RX4 TX4 17
theorem nmX4 : ∀ a, a < 17 → ∀ b, b < 17 → a ≠ b → (TX4 a).2.1 ≠ (TX4 b).2.1 := by decide +kernel
theorem tyX4_ok : ∀ k, k < 17 → parseFieldDescriptor (TX4 k).2.2.1 = some (tyX4 k) := by decide +kernel
abbrev cX4_init : ByteArray := prog_1_method_1_code
def yX4_init : MethodName := ⟨RX4, "<init>", "()V"⟩
abbrev cX4_write : ByteArray := prog_1_method_2_code
def yX4_write : MethodName := ⟨RX4, "write", "(I)I"⟩
abbrev cX4_wipe : ByteArray := prog_1_method_3_code
def yX4_wipe : MethodName := ⟨RX4, "wipe", "()I"⟩
abbrev cX4_fault : ByteArray := prog_1_method_4_code
def yX4_fault : MethodName := ⟨RX4, "fault", "()I"⟩
abbrev cX4_lay : ByteArray := prog_1_method_5_code
def yX4_lay : MethodName := ⟨RX4, "lay", "()I"⟩
abbrev cX4_instrument : ByteArray := prog_1_method_6_code
def yX4_instrument : MethodName := ⟨RX4, "instrument", "(II)I"⟩
abbrev cX4_seat : ByteArray := prog_1_method_7_code
def yX4_seat : MethodName := ⟨RX4, "seat", "(I)I"⟩
abbrev cX4_asked : ByteArray := prog_1_method_8_code
def yX4_asked : MethodName := ⟨RX4, "asked", "(I)I"⟩
abbrev cX4_plays : ByteArray := prog_1_method_9_code
def yX4_plays : MethodName := ⟨RX4, "plays", "(I)I"⟩
abbrev cX4_missing : ByteArray := prog_1_method_10_code
def yX4_missing : MethodName := ⟨RX4, "missing", "(I)I"⟩
abbrev cX4_first : ByteArray := prog_1_method_11_code
def yX4_first : MethodName := ⟨RX4, "first", "()I"⟩
abbrev cX4_notes : ByteArray := prog_1_method_12_code
def yX4_notes : MethodName := ⟨RX4, "notes", "(I)I"⟩
abbrev cX4_change : ByteArray := prog_1_method_13_code
def yX4_change : MethodName := ⟨RX4, "change", "(II)I"⟩
abbrev cX4_bribe : ByteArray := prog_1_method_14_code
def yX4_bribe : MethodName := ⟨RX4, "bribe", "(I)I"⟩
abbrev cX4_undo : ByteArray := prog_1_method_15_code
def yX4_undo : MethodName := ⟨RX4, "undo", "()I"⟩
abbrev cX4_best : ByteArray := prog_1_method_16_code
def yX4_best : MethodName := ⟨RX4, "best", "(I)I"⟩
abbrev cX4_changes : ByteArray := prog_1_method_17_code
def yX4_changes : MethodName := ⟨RX4, "changes", "()I"⟩
abbrev cX4_help : ByteArray := prog_1_method_18_code
def yX4_help : MethodName := ⟨RX4, "help", "(I)I"⟩
abbrev cX4_bribes : ByteArray := prog_1_method_19_code
def yX4_bribes : MethodName := ⟨RX4, "bribes", "(I)I"⟩
abbrev cX4_rests : ByteArray := prog_1_method_20_code
def yX4_rests : MethodName := ⟨RX4, "rests", "()I"⟩
abbrev cX4_silence : ByteArray := prog_1_method_21_code
def yX4_silence : MethodName := ⟨RX4, "silence", "(I)I"⟩
abbrev cX4_alike : ByteArray := prog_1_method_22_code
def yX4_alike : MethodName := ⟨RX4, "alike", "()I"⟩
abbrev cX4_odds : ByteArray := prog_1_method_23_code
def yX4_odds : MethodName := ⟨RX4, "odds", "(I)I"⟩
abbrev cX4_atLeast : ByteArray := prog_1_method_24_code
def yX4_atLeast : MethodName := ⟨RX4, "atLeast", "(II)I"⟩
abbrev cX4_heard : ByteArray := prog_1_method_25_code
def yX4_heard : MethodName := ⟨RX4, "heard", "(III)I"⟩
abbrev cX4_forget : ByteArray := prog_1_method_26_code
def yX4_forget : MethodName := ⟨RX4, "forget", "()I"⟩
abbrev cX4_kinds : ByteArray := prog_1_method_27_code
def yX4_kinds : MethodName := ⟨RX4, "kinds", "(I)I"⟩
abbrev cX4_hall : ByteArray := prog_1_method_28_code
def yX4_hall : MethodName := ⟨RX4, "hall", "(I)I"⟩
abbrev cX4_tour : ByteArray := prog_1_method_29_code
def yX4_tour : MethodName := ⟨RX4, "tour", "(III)I"⟩
abbrev cX4_keep : ByteArray := prog_1_method_30_code
def yX4_keep : MethodName := ⟨RX4, "keep", "()I"⟩
abbrev cX4_back : ByteArray := prog_1_method_31_code
def yX4_back : MethodName := ⟨RX4, "back", "()I"⟩
abbrev cX4_count : ByteArray := prog_1_method_32_code
def yX4_count : MethodName := ⟨RX4, "count", "(I)I"⟩
abbrev cX4_layText : ByteArray := prog_1_method_33_code
def yX4_layText : MethodName := ⟨RX4, "layText", "()Z"⟩
abbrev cX4_settle : ByteArray := prog_1_method_34_code
def yX4_settle : MethodName := ⟨RX4, "settle", "()V"⟩
abbrev cX4_surveyed : ByteArray := prog_1_method_35_code
def yX4_surveyed : MethodName := ⟨RX4, "surveyed", "()LSecondOboe$Survey;"⟩
abbrev cX4_remember : ByteArray := prog_1_method_36_code
def yX4_remember : MethodName := ⟨RX4, "remember", "(I)V"⟩
abbrev cX4_isInstrument : ByteArray := prog_1_method_37_code
def yX4_isInstrument : MethodName := ⟨RX4, "isInstrument", "(I)Z"⟩
abbrev cX4_isBar : ByteArray := prog_1_method_38_code
def yX4_isBar : MethodName := ⟨RX4, "isBar", "(I)Z"⟩
abbrev cX4_seatOf : ByteArray := prog_1_method_39_code
def yX4_seatOf : MethodName := ⟨RX4, "seatOf", "(I)I"⟩
abbrev cX4_missingIn : ByteArray := prog_1_method_40_code
def yX4_missingIn : MethodName := ⟨RX4, "missingIn", "(I)I"⟩
abbrev cX4_priceOf : ByteArray := prog_1_method_41_code
def yX4_priceOf : MethodName := ⟨RX4, "priceOf", "(I)I"⟩
abbrev cX4_agreesWithHeard : ByteArray := prog_1_method_42_code
def yX4_agreesWithHeard : MethodName := ⟨RX4, "agreesWithHeard", "(ILSecondOboe$Evening;)Z"⟩
abbrev cX4_draw : ByteArray := prog_1_method_43_code
def yX4_draw : MethodName := ⟨RX4, "draw", "(II)I"⟩
abbrev cX4_swapSeats : ByteArray := prog_1_method_44_code
def yX4_swapSeats : MethodName := ⟨RX4, "swapSeats", "([III)V"⟩
abbrev cX4_inLowestTerms : ByteArray := prog_1_method_45_code
def yX4_inLowestTerms : MethodName := ⟨RX4, "inLowestTerms", "(III)I"⟩
def RX5 : String := "SecondOboeModel"
def TX5 : u_T := fun k => match k with
  | 0 => ("SecondOboeModel", "text", "[I", true)
  | 1 => ("SecondOboeModel", "typed", "I", false)
  | 2 => ("SecondOboeModel", "told", "[I", true)
  | 3 => ("SecondOboeModel", "draft", "[I", true)
  | 4 => ("SecondOboeModel", "s", "[I", true)
  | 5 => ("SecondOboeModel", "past", "[I", true)
  | 6 => ("SecondOboeModel", "known", "I", false)
  | 7 => ("SecondOboeModel", "images", "[I", true)
  | 8 => ("SecondOboeModel", "kept", "I", false)
  | 9 => ("SecondOboeModel", "heard", "[I", true)
  | 10 => ("SecondOboeModel", "hears", "I", false)
  | 11 => ("SecondOboeModel", "at", "I", false)
  | 12 => ("SecondOboeModel", "sat", "[I", true)
  | 13 => ("SecondOboeModel", "beside", "[I", true)
  | 14 => ("SecondOboeModel", "kinds", "[I", true)
  | 15 => ("SecondOboeModel", "played", "[I", true)
  | 16 => ("SecondOboeModel", "bribed", "I", false)
  | 17 => ("SecondOboeModel", "gaps", "I", false)
  | 18 => ("SecondOboeModel", "mute", "I", false)
  | 19 => ("SecondOboeModel", "notes", "I", false)
  | _ => ("SecondOboeModel", "heardNow", "[I", true)
def tyX5 : Nat → FieldType := fun k => match k with
  | 0 => .array .int
  | 1 => .int
  | 2 => .array .int
  | 3 => .array .int
  | 4 => .array .int
  | 5 => .array .int
  | 6 => .int
  | 7 => .array .int
  | 8 => .int
  | 9 => .array .int
  | 10 => .int
  | 11 => .int
  | 12 => .array .int
  | 13 => .array .int
  | 14 => .array .int
  | 15 => .array .int
  | 16 => .int
  | 17 => .int
  | 18 => .int
  | 19 => .int
  | _ => .array .int
abbrev wsX50 : List Cond := u_ws RX5 TX5 21
theorem nmX5 : ∀ a, a < 21 → ∀ b, b < 21 → a ≠ b → (TX5 a).2.1 ≠ (TX5 b).2.1 := by decide +kernel
theorem tyX5_ok : ∀ k, k < 21 → parseFieldDescriptor (TX5 k).2.2.1 = some (tyX5 k) := by decide +kernel
abbrev cX5_init : ByteArray := prog_7_method_1_code
def yX5_init : MethodName := ⟨RX5, "<init>", "()V"⟩
abbrev cX5_in : ByteArray := prog_7_method_3_code
def yX5_in : MethodName := ⟨RX5, "in", "(III)Z"⟩
abbrev cX5_isOne : ByteArray := prog_7_method_4_code
def yX5_isOne : MethodName := ⟨RX5, "isOne", "(I)Z"⟩
abbrev cX5_isBar : ByteArray := prog_7_method_5_code
def yX5_isBar : MethodName := ⟨RX5, "isBar", "(I)Z"⟩
abbrev cX5_ones : ByteArray := prog_7_method_6_code
def yX5_ones : MethodName := ⟨RX5, "ones", "(I)I"⟩
abbrev cX5_write : ByteArray := prog_7_method_7_code
def yX5_write : MethodName := ⟨RX5, "write", "(I)I"⟩
abbrev cX5_wipe : ByteArray := prog_7_method_8_code
def yX5_wipe : MethodName := ⟨RX5, "wipe", "()I"⟩
abbrev cX5_letterAt : ByteArray := prog_7_method_9_code
def yX5_letterAt : MethodName := ⟨RX5, "letterAt", "(I)I"⟩
abbrev cX5_isFigure : ByteArray := prog_7_method_10_code
def yX5_isFigure : MethodName := ⟨RX5, "isFigure", "(I)Z"⟩
abbrev cX5_number : ByteArray := prog_7_method_11_code
def yX5_number : MethodName := ⟨RX5, "number", "(II)I"⟩
abbrev cX5_begins : ByteArray := prog_7_method_12_code
def yX5_begins : MethodName := ⟨RX5, "begins", "()V"⟩
abbrev cX5_adds : ByteArray := prog_7_method_13_code
def yX5_adds : MethodName := ⟨RX5, "adds", "(III)V"⟩
abbrev cX5_sits : ByteArray := prog_7_method_14_code
def yX5_sits : MethodName := ⟨RX5, "sits", "(I)V"⟩
abbrev cX5_readsItem : ByteArray := prog_7_method_15_code
def yX5_readsItem : MethodName := ⟨RX5, "readsItem", "(I)Z"⟩
abbrev cX5_reads : ByteArray := prog_7_method_16_code
def yX5_reads : MethodName := ⟨RX5, "reads", "()I"⟩
abbrev cX5_fault : ByteArray := prog_7_method_17_code
def yX5_fault : MethodName := ⟨RX5, "fault", "()I"⟩
abbrev cX5_lays : ByteArray := prog_7_method_18_code
def yX5_lays : MethodName := ⟨RX5, "lays", "()V"⟩
abbrev cX5_lay : ByteArray := prog_7_method_19_code
def yX5_lay : MethodName := ⟨RX5, "lay", "()I"⟩
abbrev cX5_asItIs : ByteArray := prog_7_method_20_code
def yX5_asItIs : MethodName := ⟨RX5, "asItIs", "()V"⟩
abbrev cX5_wants : ByteArray := prog_7_method_21_code
def yX5_wants : MethodName := ⟨RX5, "wants", "(III)Z"⟩
abbrev cX5_askedIn : ByteArray := prog_7_method_22_code
def yX5_askedIn : MethodName := ⟨RX5, "askedIn", "(I)I"⟩
abbrev cX5_goes : ByteArray := prog_7_method_23_code
def yX5_goes : MethodName := ⟨RX5, "goes", "()I"⟩
abbrev cX5_seatOf : ByteArray := prog_7_method_24_code
def yX5_seatOf : MethodName := ⟨RX5, "seatOf", "(I)I"⟩
abbrev cX5_instrument : ByteArray := prog_7_method_25_code
def yX5_instrument : MethodName := ⟨RX5, "instrument", "(II)I"⟩
abbrev cX5_seat : ByteArray := prog_7_method_26_code
def yX5_seat : MethodName := ⟨RX5, "seat", "(I)I"⟩
abbrev cX5_asked : ByteArray := prog_7_method_27_code
def yX5_asked : MethodName := ⟨RX5, "asked", "(I)I"⟩
abbrev cX5_plays : ByteArray := prog_7_method_28_code
def yX5_plays : MethodName := ⟨RX5, "plays", "(I)I"⟩
abbrev cX5_missing : ByteArray := prog_7_method_29_code
def yX5_missing : MethodName := ⟨RX5, "missing", "(I)I"⟩
abbrev cX5_first : ByteArray := prog_7_method_30_code
def yX5_first : MethodName := ⟨RX5, "first", "()I"⟩
abbrev cX5_notes : ByteArray := prog_7_method_31_code
def yX5_notes : MethodName := ⟨RX5, "notes", "(I)I"⟩
abbrev cX5_keeps : ByteArray := prog_7_method_32_code
def yX5_keeps : MethodName := ⟨RX5, "keeps", "()V"⟩
abbrev cX5_change : ByteArray := prog_7_method_33_code
def yX5_change : MethodName := ⟨RX5, "change", "(II)I"⟩
abbrev cX5_costOf : ByteArray := prog_7_method_34_code
def yX5_costOf : MethodName := ⟨RX5, "costOf", "(I)I"⟩
abbrev cX5_bribe : ByteArray := prog_7_method_35_code
def yX5_bribe : MethodName := ⟨RX5, "bribe", "(I)I"⟩
abbrev cX5_undo : ByteArray := prog_7_method_36_code
def yX5_undo : MethodName := ⟨RX5, "undo", "()I"⟩
abbrev cX5_firstSeating : ByteArray := prog_7_method_37_code
def yX5_firstSeating : MethodName := ⟨RX5, "firstSeating", "()V"⟩
abbrev cX5_nextSeating : ByteArray := prog_7_method_38_code
def yX5_nextSeating : MethodName := ⟨RX5, "nextSeating", "()Z"⟩
abbrev cX5_swaps : ByteArray := prog_7_method_39_code
def yX5_swaps : MethodName := ⟨RX5, "swaps", "(II)V"⟩
abbrev cX5_best : ByteArray := prog_7_method_40_code
def yX5_best : MethodName := ⟨RX5, "best", "(I)I"⟩
abbrev cX5_far : ByteArray := prog_7_method_41_code
def yX5_far : MethodName := ⟨RX5, "far", "()I"⟩
abbrev cX5_changes : ByteArray := prog_7_method_42_code
def yX5_changes : MethodName := ⟨RX5, "changes", "()I"⟩
abbrev cX5_help : ByteArray := prog_7_method_43_code
def yX5_help : MethodName := ⟨RX5, "help", "(I)I"⟩
abbrev cX5_bribes : ByteArray := prog_7_method_44_code
def yX5_bribes : MethodName := ⟨RX5, "bribes", "(I)I"⟩
abbrev cX5_rests : ByteArray := prog_7_method_45_code
def yX5_rests : MethodName := ⟨RX5, "rests", "()I"⟩
abbrev cX5_silence : ByteArray := prog_7_method_46_code
def yX5_silence : MethodName := ⟨RX5, "silence", "(I)I"⟩
abbrev cX5_alike : ByteArray := prog_7_method_47_code
def yX5_alike : MethodName := ⟨RX5, "alike", "()I"⟩
abbrev cX5_share : ByteArray := prog_7_method_48_code
def yX5_share : MethodName := ⟨RX5, "share", "(II)I"⟩
abbrev cX5_odds : ByteArray := prog_7_method_49_code
def yX5_odds : MethodName := ⟨RX5, "odds", "(I)I"⟩
abbrev cX5_atLeast : ByteArray := prog_7_method_50_code
def yX5_atLeast : MethodName := ⟨RX5, "atLeast", "(II)I"⟩
abbrev cX5_heard : ByteArray := prog_7_method_51_code
def yX5_heard : MethodName := ⟨RX5, "heard", "(III)I"⟩
abbrev cX5_forget : ByteArray := prog_7_method_52_code
def yX5_forget : MethodName := ⟨RX5, "forget", "()I"⟩
abbrev cX5_kinds : ByteArray := prog_7_method_53_code
def yX5_kinds : MethodName := ⟨RX5, "kinds", "(I)I"⟩
abbrev cX5_hall : ByteArray := prog_7_method_54_code
def yX5_hall : MethodName := ⟨RX5, "hall", "(I)I"⟩
abbrev cX5_tour : ByteArray := prog_7_method_55_code
def yX5_tour : MethodName := ⟨RX5, "tour", "(III)I"⟩
abbrev cX5_keep : ByteArray := prog_7_method_56_code
def yX5_keep : MethodName := ⟨RX5, "keep", "()I"⟩
abbrev cX5_back : ByteArray := prog_7_method_57_code
def yX5_back : MethodName := ⟨RX5, "back", "()I"⟩
abbrev cX5_count : ByteArray := prog_7_method_58_code
def yX5_count : MethodName := ⟨RX5, "count", "(I)I"⟩
def RJx145de : String := "java/io/Serializable"
def TJx145de : u_T := fun k => match k with
  | _ => ("", "", "", false)
def tyJx145de : Nat → FieldType := fun k => match k with
  | _ => .int
abbrev wsJx145de0 : List Cond := u_ws RJx145de TJx145de 0
theorem nmJx145de : ∀ a, a < 0 → ∀ b, b < 0 → a ≠ b → (TJx145de a).2.1 ≠ (TJx145de b).2.1 := by decide +kernel
theorem tyJx145de_ok : ∀ k, k < 0 → parseFieldDescriptor (TJx145de k).2.2.1 = some (tyJx145de k) := by decide +kernel
def RJx9f9b0 : String := "java/lang/CharSequence"
def TJx9f9b0 : u_T := fun k => match k with
  | _ => ("", "", "", false)
def tyJx9f9b0 : Nat → FieldType := fun k => match k with
  | _ => .int
abbrev wsJx9f9b00 : List Cond := u_ws RJx9f9b0 TJx9f9b0 0
theorem nmJx9f9b0 : ∀ a, a < 0 → ∀ b, b < 0 → a ≠ b → (TJx9f9b0 a).2.1 ≠ (TJx9f9b0 b).2.1 := by decide +kernel
theorem tyJx9f9b0_ok : ∀ k, k < 0 → parseFieldDescriptor (TJx9f9b0 k).2.2.1 = some (tyJx9f9b0 k) := by decide +kernel
def RJxb160c : String := "java/lang/Comparable"
def TJxb160c : u_T := fun k => match k with
  | _ => ("", "", "", false)
def tyJxb160c : Nat → FieldType := fun k => match k with
  | _ => .int
abbrev wsJxb160c0 : List Cond := u_ws RJxb160c TJxb160c 0
theorem nmJxb160c : ∀ a, a < 0 → ∀ b, b < 0 → a ≠ b → (TJxb160c a).2.1 ≠ (TJxb160c b).2.1 := by decide +kernel
theorem tyJxb160c_ok : ∀ k, k < 0 → parseFieldDescriptor (TJxb160c k).2.2.1 = some (tyJxb160c k) := by decide +kernel
def RJ6 : String := "java/lang/Integer"
def TJ6 : u_T := fun k => match k with
  | _ => ("", "", "", false)
def tyJ6 : Nat → FieldType := fun k => match k with
  | _ => .int
abbrev wsJ60 : List Cond := u_ws RJ6 TJ6 0
theorem nmJ6 : ∀ a, a < 0 → ∀ b, b < 0 → a ≠ b → (TJ6 a).2.1 ≠ (TJ6 b).2.1 := by decide +kernel
theorem tyJ6_ok : ∀ k, k < 0 → parseFieldDescriptor (TJ6 k).2.2.1 = some (tyJ6 k) := by decide +kernel
abbrev cJ6_bitCount_0f7a4 : ByteArray := prog_8_method_49_code
def yJ6_bitCount_0f7a4 : MethodName := ⟨RJ6, "bitCount", "(I)I"⟩
def RJ9 : String := "java/lang/Math"
def TJ9 : u_T := fun k => match k with
  | _ => ("", "", "", false)
def tyJ9 : Nat → FieldType := fun k => match k with
  | _ => .int
abbrev wsJ90 : List Cond := u_ws RJ9 TJ9 0
theorem nmJ9 : ∀ a, a < 0 → ∀ b, b < 0 → a ≠ b → (TJ9 a).2.1 ≠ (TJ9 b).2.1 := by decide +kernel
theorem tyJ9_ok : ∀ k, k < 0 → parseFieldDescriptor (TJ9 k).2.2.1 = some (tyJ9 k) := by decide +kernel
abbrev cJ9_max_7cf53 : ByteArray := prog_9_method_65_code
def yJ9_max_7cf53 : MethodName := ⟨RJ9, "max", "(II)I"⟩
abbrev cJ9_min_7cf53 : ByteArray := prog_9_method_69_code
def yJ9_min_7cf53 : MethodName := ⟨RJ9, "min", "(II)I"⟩
def RJ0 : String := "java/lang/String"
def TJ0 : u_T := fun k => match k with
  | _ => ("", "", "", false)
def tyJ0 : Nat → FieldType := fun k => match k with
  | _ => .int
abbrev wsJ00 : List Cond := u_ws RJ0 TJ0 0
theorem nmJ0 : ∀ a, a < 0 → ∀ b, b < 0 → a ≠ b → (TJ0 a).2.1 ≠ (TJ0 b).2.1 := by decide +kernel
theorem tyJ0_ok : ∀ k, k < 0 → parseFieldDescriptor (TJ0 k).2.2.1 = some (tyJ0 k) := by decide +kernel
abbrev cJ0_length_8abf5 : ByteArray := prog_10_method_54_code
def yJ0_length_8abf5 : MethodName := ⟨RJ0, "length", "()I"⟩
abbrev cJ0_charAt_5068e : ByteArray := prog_10_method_56_code
def yJ0_charAt_5068e : MethodName := ⟨RJ0, "charAt", "(I)C"⟩
abbrev cJ0_coder_7d493 : ByteArray := prog_10_method_152_code
def yJ0_coder_7d493 : MethodName := ⟨RJ0, "coder", "()B"⟩
abbrev cJ0_isLatin1_aae02 : ByteArray := prog_10_method_154_code
def yJ0_isLatin1_aae02 : MethodName := ⟨RJ0, "isLatin1", "()Z"⟩
abbrev cJ0_checkIndex_df160 : ByteArray := prog_10_method_155_code
def yJ0_checkIndex_df160 : MethodName := ⟨RJ0, "checkIndex", "(II)V"⟩
def RJ1 : String := "java/lang/StringLatin1"
def TJ1 : u_T := fun k => match k with
  | _ => ("", "", "", false)
def tyJ1 : Nat → FieldType := fun k => match k with
  | _ => .int
abbrev wsJ10 : List Cond := u_ws RJ1 TJ1 0
theorem nmJ1 : ∀ a, a < 0 → ∀ b, b < 0 → a ≠ b → (TJ1 a).2.1 ≠ (TJ1 b).2.1 := by decide +kernel
theorem tyJ1_ok : ∀ k, k < 0 → parseFieldDescriptor (TJ1 k).2.2.1 = some (tyJ1 k) := by decide +kernel
abbrev cJ1_charAt_3b067 : ByteArray := prog_11_method_2_code
def yJ1_charAt_3b067 : MethodName := ⟨RJ1, "charAt", "([BI)C"⟩
def RJ2 : String := "java/lang/StringUTF16"
def TJ2 : u_T := fun k => match k with
  | _ => ("", "", "", false)
def tyJ2 : Nat → FieldType := fun k => match k with
  | _ => .int
abbrev wsJ20 : List Cond := u_ws RJ2 TJ2 0
theorem nmJ2 : ∀ a, a < 0 → ∀ b, b < 0 → a ≠ b → (TJ2 a).2.1 ≠ (TJ2 b).2.1 := by decide +kernel
theorem tyJ2_ok : ∀ k, k < 0 → parseFieldDescriptor (TJ2 k).2.2.1 = some (tyJ2 k) := by decide +kernel
abbrev cJ2_getChar_3b067 : ByteArray := prog_12_method_5_code
def yJ2_getChar_3b067 : MethodName := ⟨RJ2, "getChar", "([BI)C"⟩
abbrev cJ2_length_9d52b : ByteArray := prog_12_method_6_code
def yJ2_length_9d52b : MethodName := ⟨RJ2, "length", "([B)I"⟩
abbrev cJ2_charAt_3b067 : ByteArray := prog_12_method_83_code
def yJ2_charAt_3b067 : MethodName := ⟨RJ2, "charAt", "([BI)C"⟩
abbrev cJ2_checkIndex_2214a : ByteArray := prog_12_method_91_code
def yJ2_checkIndex_2214a : MethodName := ⟨RJ2, "checkIndex", "(I[B)V"⟩
def RJ10 : String := "java/lang/System"
def TJ10 : u_T := fun k => match k with
  | _ => ("", "", "", false)
def tyJ10 : Nat → FieldType := fun k => match k with
  | _ => .int
abbrev wsJ100 : List Cond := u_ws RJ10 TJ10 0
theorem nmJ10 : ∀ a, a < 0 → ∀ b, b < 0 → a ≠ b → (TJ10 a).2.1 ≠ (TJ10 b).2.1 := by decide +kernel
theorem tyJ10_ok : ∀ k, k < 0 → parseFieldDescriptor (TJ10 k).2.2.1 = some (tyJ10 k) := by decide +kernel
def RJxfd54e : String := "java/lang/constant/Constable"
def TJxfd54e : u_T := fun k => match k with
  | _ => ("", "", "", false)
def tyJxfd54e : Nat → FieldType := fun k => match k with
  | _ => .int
abbrev wsJxfd54e0 : List Cond := u_ws RJxfd54e TJxfd54e 0
theorem nmJxfd54e : ∀ a, a < 0 → ∀ b, b < 0 → a ≠ b → (TJxfd54e a).2.1 ≠ (TJxfd54e b).2.1 := by decide +kernel
theorem tyJxfd54e_ok : ∀ k, k < 0 → parseFieldDescriptor (TJxfd54e k).2.2.1 = some (tyJxfd54e k) := by decide +kernel
def RJx3cf43 : String := "java/lang/constant/ConstantDesc"
def TJx3cf43 : u_T := fun k => match k with
  | _ => ("", "", "", false)
def tyJx3cf43 : Nat → FieldType := fun k => match k with
  | _ => .int
abbrev wsJx3cf430 : List Cond := u_ws RJx3cf43 TJx3cf43 0
theorem nmJx3cf43 : ∀ a, a < 0 → ∀ b, b < 0 → a ≠ b → (TJx3cf43 a).2.1 ≠ (TJx3cf43 b).2.1 := by decide +kernel
theorem tyJx3cf43_ok : ∀ k, k < 0 → parseFieldDescriptor (TJx3cf43 k).2.2.1 = some (tyJx3cf43 k) := by decide +kernel
def RJ7 : String := "java/util/Arrays"
def TJ7 : u_T := fun k => match k with
  | _ => ("", "", "", false)
def tyJ7 : Nat → FieldType := fun k => match k with
  | _ => .int
abbrev wsJ70 : List Cond := u_ws RJ7 TJ7 0
theorem nmJ7 : ∀ a, a < 0 → ∀ b, b < 0 → a ≠ b → (TJ7 a).2.1 ≠ (TJ7 b).2.1 := by decide +kernel
theorem tyJ7_ok : ∀ k, k < 0 → parseFieldDescriptor (TJ7 k).2.2.1 = some (tyJ7 k) := by decide +kernel
abbrev cJ7_fill_53178 : ByteArray := prog_14_method_103_code
def yJ7_fill_53178 : MethodName := ⟨RJ7, "fill", "([II)V"⟩
def RJ3 : String := "jdk/internal/util/Preconditions"
def TJ3 : u_T := fun k => match k with
  | _ => ("", "", "", false)
def tyJ3 : Nat → FieldType := fun k => match k with
  | _ => .int
abbrev wsJ30 : List Cond := u_ws RJ3 TJ3 0
theorem nmJ3 : ∀ a, a < 0 → ∀ b, b < 0 → a ≠ b → (TJ3 a).2.1 ≠ (TJ3 b).2.1 := by decide +kernel
theorem tyJ3_ok : ∀ k, k < 0 → parseFieldDescriptor (TJ3 k).2.2.1 = some (tyJ3 k) := by decide +kernel
abbrev cJ3_checkIndex_8e157 : ByteArray := prog_15_method_11_code
def yJ3_checkIndex_8e157 : MethodName := ⟨RJ3, "checkIndex", "(IILjava/util/function/BiFunction;)I"⟩
def RL : String := "SecondOboeLaw"
abbrev cL_law : ByteArray := code
def yL_law : MethodName := ⟨RL, "law", "([I)Z"⟩
theorem dX0_init_0 : decode cX0_init 0 = .ok (.aload_n 0, 1) := by decide +kernel
theorem dX0_init_1 : decode cX0_init 1 = .ok (.invokespecial 3, 3) := by decide +kernel
theorem dX0_init_4 : decode cX0_init 4 = .ok (.aload_n 0, 1) := by decide +kernel
theorem dX0_init_5 : decode cX0_init 5 = .ok (.bipush 7, 2) := by decide +kernel
theorem dX0_init_7 : decode cX0_init 7 = .ok (.newarray .int, 2) := by decide +kernel
theorem dX0_init_9 : decode cX0_init 9 = .ok (.putfield 9, 3) := by decide +kernel
theorem dX0_init_12 : decode cX0_init 12 = .ok (.aload_n 0, 1) := by decide +kernel
theorem dX0_init_13 : decode cX0_init 13 = .ok (.bipush 7, 2) := by decide +kernel
theorem dX0_init_15 : decode cX0_init 15 = .ok (.newarray .int, 2) := by decide +kernel
theorem dX0_init_17 : decode cX0_init 17 = .ok (.putfield 15, 3) := by decide +kernel
theorem dX0_init_20 : decode cX0_init 20 = .ok (.aload_n 0, 1) := by decide +kernel
theorem dX0_init_21 : decode cX0_init 21 = .ok (.bipush 7, 2) := by decide +kernel
theorem dX0_init_23 : decode cX0_init 23 = .ok (.newarray .int, 2) := by decide +kernel
theorem dX0_init_25 : decode cX0_init 25 = .ok (.putfield 18, 3) := by decide +kernel
theorem dX0_init_28 : decode cX0_init 28 = .ok (.aload_n 0, 1) := by decide +kernel
theorem dX0_init_29 : decode cX0_init 29 = .ok (.bipush 8, 2) := by decide +kernel
theorem dX0_init_31 : decode cX0_init 31 = .ok (.newarray .int, 2) := by decide +kernel
theorem dX0_init_33 : decode cX0_init 33 = .ok (.putfield 21, 3) := by decide +kernel
theorem dX0_init_36 : decode cX0_init 36 = .ok (.aload_n 0, 1) := by decide +kernel
theorem dX0_init_37 : decode cX0_init 37 = .ok (.bipush 7, 2) := by decide +kernel
theorem dX0_init_39 : decode cX0_init 39 = .ok (.newarray .int, 2) := by decide +kernel
theorem dX0_init_41 : decode cX0_init 41 = .ok (.putfield 24, 3) := by decide +kernel
theorem dX0_init_44 : decode cX0_init 44 = .ok (.return_, 1) := by decide +kernel
theorem dX0_clear_0 : decode cX0_clear 0 = .ok (.aload_n 0, 1) := by decide +kernel
theorem dX0_clear_1 : decode cX0_clear 1 = .ok (.iconst 0, 1) := by decide +kernel
theorem dX0_clear_2 : decode cX0_clear 2 = .ok (.putfield 27, 3) := by decide +kernel
theorem dX0_clear_5 : decode cX0_clear 5 = .ok (.aload_n 0, 1) := by decide +kernel
theorem dX0_clear_6 : decode cX0_clear 6 = .ok (.iconst 0, 1) := by decide +kernel
theorem dX0_clear_7 : decode cX0_clear 7 = .ok (.putfield 31, 3) := by decide +kernel
theorem dX0_clear_10 : decode cX0_clear 10 = .ok (.aload_n 0, 1) := by decide +kernel
theorem dX0_clear_11 : decode cX0_clear 11 = .ok (.iconst 0, 1) := by decide +kernel
theorem dX0_clear_12 : decode cX0_clear 12 = .ok (.putfield 34, 3) := by decide +kernel
theorem dX0_clear_15 : decode cX0_clear 15 = .ok (.aload_n 0, 1) := by decide +kernel
theorem dX0_clear_16 : decode cX0_clear 16 = .ok (.iconst 0, 1) := by decide +kernel
theorem dX0_clear_17 : decode cX0_clear 17 = .ok (.putfield 37, 3) := by decide +kernel
theorem dX0_clear_20 : decode cX0_clear 20 = .ok (.return_, 1) := by decide +kernel
theorem dX0_copyFrom_0 : decode cX0_copyFrom 0 = .ok (.aload_n 1, 1) := by decide +kernel
theorem dX0_copyFrom_1 : decode cX0_copyFrom 1 = .ok (.getfield 9, 3) := by decide +kernel
theorem dX0_copyFrom_4 : decode cX0_copyFrom 4 = .ok (.iconst 0, 1) := by decide +kernel
theorem dX0_copyFrom_5 : decode cX0_copyFrom 5 = .ok (.aload_n 0, 1) := by decide +kernel
theorem dX0_copyFrom_6 : decode cX0_copyFrom 6 = .ok (.getfield 9, 3) := by decide +kernel
theorem dX0_copyFrom_9 : decode cX0_copyFrom 9 = .ok (.iconst 0, 1) := by decide +kernel
theorem dX0_copyFrom_10 : decode cX0_copyFrom 10 = .ok (.aload_n 0, 1) := by decide +kernel
theorem dX0_copyFrom_11 : decode cX0_copyFrom 11 = .ok (.getfield 9, 3) := by decide +kernel
theorem dX0_copyFrom_14 : decode cX0_copyFrom 14 = .ok (.arraylength, 1) := by decide +kernel
theorem dX0_copyFrom_15 : decode cX0_copyFrom 15 = .ok (.invokestatic 40, 3) := by decide +kernel
theorem dX0_copyFrom_18 : decode cX0_copyFrom 18 = .ok (.aload_n 1, 1) := by decide +kernel
theorem dX0_copyFrom_19 : decode cX0_copyFrom 19 = .ok (.getfield 15, 3) := by decide +kernel
theorem dX0_copyFrom_22 : decode cX0_copyFrom 22 = .ok (.iconst 0, 1) := by decide +kernel
theorem dX0_copyFrom_23 : decode cX0_copyFrom 23 = .ok (.aload_n 0, 1) := by decide +kernel
theorem dX0_copyFrom_24 : decode cX0_copyFrom 24 = .ok (.getfield 15, 3) := by decide +kernel
theorem dX0_copyFrom_27 : decode cX0_copyFrom 27 = .ok (.iconst 0, 1) := by decide +kernel
theorem dX0_copyFrom_28 : decode cX0_copyFrom 28 = .ok (.aload_n 0, 1) := by decide +kernel
theorem dX0_copyFrom_29 : decode cX0_copyFrom 29 = .ok (.getfield 15, 3) := by decide +kernel
theorem dX0_copyFrom_32 : decode cX0_copyFrom 32 = .ok (.arraylength, 1) := by decide +kernel
theorem dX0_copyFrom_33 : decode cX0_copyFrom 33 = .ok (.invokestatic 40, 3) := by decide +kernel
theorem dX0_copyFrom_36 : decode cX0_copyFrom 36 = .ok (.aload_n 1, 1) := by decide +kernel
theorem dX0_copyFrom_37 : decode cX0_copyFrom 37 = .ok (.getfield 18, 3) := by decide +kernel
theorem dX0_copyFrom_40 : decode cX0_copyFrom 40 = .ok (.iconst 0, 1) := by decide +kernel
theorem dX0_copyFrom_41 : decode cX0_copyFrom 41 = .ok (.aload_n 0, 1) := by decide +kernel
theorem dX0_copyFrom_42 : decode cX0_copyFrom 42 = .ok (.getfield 18, 3) := by decide +kernel
theorem dX0_copyFrom_45 : decode cX0_copyFrom 45 = .ok (.iconst 0, 1) := by decide +kernel
theorem dX0_copyFrom_46 : decode cX0_copyFrom 46 = .ok (.aload_n 0, 1) := by decide +kernel
theorem dX0_copyFrom_47 : decode cX0_copyFrom 47 = .ok (.getfield 18, 3) := by decide +kernel
theorem dX0_copyFrom_50 : decode cX0_copyFrom 50 = .ok (.arraylength, 1) := by decide +kernel
theorem dX0_copyFrom_51 : decode cX0_copyFrom 51 = .ok (.invokestatic 40, 3) := by decide +kernel
theorem dX0_copyFrom_54 : decode cX0_copyFrom 54 = .ok (.aload_n 1, 1) := by decide +kernel
theorem dX0_copyFrom_55 : decode cX0_copyFrom 55 = .ok (.getfield 21, 3) := by decide +kernel
theorem dX0_copyFrom_58 : decode cX0_copyFrom 58 = .ok (.iconst 0, 1) := by decide +kernel
theorem dX0_copyFrom_59 : decode cX0_copyFrom 59 = .ok (.aload_n 0, 1) := by decide +kernel
theorem dX0_copyFrom_60 : decode cX0_copyFrom 60 = .ok (.getfield 21, 3) := by decide +kernel
theorem dX0_copyFrom_63 : decode cX0_copyFrom 63 = .ok (.iconst 0, 1) := by decide +kernel
theorem dX0_copyFrom_64 : decode cX0_copyFrom 64 = .ok (.aload_n 0, 1) := by decide +kernel
theorem dX0_copyFrom_65 : decode cX0_copyFrom 65 = .ok (.getfield 21, 3) := by decide +kernel
theorem dX0_copyFrom_68 : decode cX0_copyFrom 68 = .ok (.arraylength, 1) := by decide +kernel
theorem dX0_copyFrom_69 : decode cX0_copyFrom 69 = .ok (.invokestatic 40, 3) := by decide +kernel
theorem dX0_copyFrom_72 : decode cX0_copyFrom 72 = .ok (.aload_n 1, 1) := by decide +kernel
theorem dX0_copyFrom_73 : decode cX0_copyFrom 73 = .ok (.getfield 24, 3) := by decide +kernel
theorem dX0_copyFrom_76 : decode cX0_copyFrom 76 = .ok (.iconst 0, 1) := by decide +kernel
theorem dX0_copyFrom_77 : decode cX0_copyFrom 77 = .ok (.aload_n 0, 1) := by decide +kernel
theorem dX0_copyFrom_78 : decode cX0_copyFrom 78 = .ok (.getfield 24, 3) := by decide +kernel
theorem dX0_copyFrom_81 : decode cX0_copyFrom 81 = .ok (.iconst 0, 1) := by decide +kernel
theorem dX0_copyFrom_82 : decode cX0_copyFrom 82 = .ok (.aload_n 0, 1) := by decide +kernel
theorem dX0_copyFrom_83 : decode cX0_copyFrom 83 = .ok (.getfield 24, 3) := by decide +kernel
theorem dX0_copyFrom_86 : decode cX0_copyFrom 86 = .ok (.arraylength, 1) := by decide +kernel
theorem dX0_copyFrom_87 : decode cX0_copyFrom 87 = .ok (.invokestatic 40, 3) := by decide +kernel
theorem dX0_copyFrom_90 : decode cX0_copyFrom 90 = .ok (.aload_n 0, 1) := by decide +kernel
theorem dX0_copyFrom_91 : decode cX0_copyFrom 91 = .ok (.aload_n 1, 1) := by decide +kernel
theorem dX0_copyFrom_92 : decode cX0_copyFrom 92 = .ok (.getfield 27, 3) := by decide +kernel
theorem dX0_copyFrom_95 : decode cX0_copyFrom 95 = .ok (.putfield 27, 3) := by decide +kernel
theorem dX0_copyFrom_98 : decode cX0_copyFrom 98 = .ok (.aload_n 0, 1) := by decide +kernel
theorem dX0_copyFrom_99 : decode cX0_copyFrom 99 = .ok (.aload_n 1, 1) := by decide +kernel
theorem dX0_copyFrom_100 : decode cX0_copyFrom 100 = .ok (.getfield 31, 3) := by decide +kernel
theorem dX0_copyFrom_103 : decode cX0_copyFrom 103 = .ok (.putfield 31, 3) := by decide +kernel
theorem dX0_copyFrom_106 : decode cX0_copyFrom 106 = .ok (.aload_n 0, 1) := by decide +kernel
theorem dX0_copyFrom_107 : decode cX0_copyFrom 107 = .ok (.aload_n 1, 1) := by decide +kernel
theorem dX0_copyFrom_108 : decode cX0_copyFrom 108 = .ok (.getfield 34, 3) := by decide +kernel
theorem dX0_copyFrom_111 : decode cX0_copyFrom 111 = .ok (.putfield 34, 3) := by decide +kernel
theorem dX0_copyFrom_114 : decode cX0_copyFrom 114 = .ok (.aload_n 0, 1) := by decide +kernel
theorem dX0_copyFrom_115 : decode cX0_copyFrom 115 = .ok (.aload_n 1, 1) := by decide +kernel
theorem dX0_copyFrom_116 : decode cX0_copyFrom 116 = .ok (.getfield 37, 3) := by decide +kernel
theorem dX0_copyFrom_119 : decode cX0_copyFrom 119 = .ok (.putfield 37, 3) := by decide +kernel
theorem dX0_copyFrom_122 : decode cX0_copyFrom 122 = .ok (.return_, 1) := by decide +kernel
theorem dX0_addInstrument_0 : decode cX0_addInstrument 0 = .ok (.aload_n 0, 1) := by decide +kernel
theorem dX0_addInstrument_1 : decode cX0_addInstrument 1 = .ok (.getfield 27, 3) := by decide +kernel
theorem dX0_addInstrument_4 : decode cX0_addInstrument 4 = .ok (.bipush 7, 2) := by decide +kernel
theorem dX0_addInstrument_6 : decode cX0_addInstrument 6 = .ok (.if_icmp .ge 20, 3) := by decide +kernel
theorem dX0_addInstrument_9 : decode cX0_addInstrument 9 = .ok (.iload_n 1, 1) := by decide +kernel
theorem dX0_addInstrument_10 : decode cX0_addInstrument 10 = .ok (.iconst 4, 1) := by decide +kernel
theorem dX0_addInstrument_11 : decode cX0_addInstrument 11 = .ok (.if_icmp .ge 15, 3) := by decide +kernel
theorem dX0_addInstrument_14 : decode cX0_addInstrument 14 = .ok (.iload_n 2, 1) := by decide +kernel
theorem dX0_addInstrument_15 : decode cX0_addInstrument 15 = .ok (.bipush 7, 2) := by decide +kernel
theorem dX0_addInstrument_17 : decode cX0_addInstrument 17 = .ok (.if_icmp .ge 9, 3) := by decide +kernel
theorem dX0_addInstrument_20 : decode cX0_addInstrument 20 = .ok (.iload_n 3, 1) := by decide +kernel
theorem dX0_addInstrument_21 : decode cX0_addInstrument 21 = .ok (.bipush 30, 2) := by decide +kernel
theorem dX0_addInstrument_23 : decode cX0_addInstrument 23 = .ok (.if_icmp .le 5, 3) := by decide +kernel
theorem dX0_addInstrument_26 : decode cX0_addInstrument 26 = .ok (.iconst 0, 1) := by decide +kernel
theorem dX0_addInstrument_27 : decode cX0_addInstrument 27 = .ok (.ireturn, 1) := by decide +kernel
theorem dX0_addInstrument_28 : decode cX0_addInstrument 28 = .ok (.aload_n 0, 1) := by decide +kernel
theorem dX0_addInstrument_29 : decode cX0_addInstrument 29 = .ok (.getfield 9, 3) := by decide +kernel
theorem dX0_addInstrument_32 : decode cX0_addInstrument 32 = .ok (.aload_n 0, 1) := by decide +kernel
theorem dX0_addInstrument_33 : decode cX0_addInstrument 33 = .ok (.getfield 27, 3) := by decide +kernel
theorem dX0_addInstrument_36 : decode cX0_addInstrument 36 = .ok (.iload_n 1, 1) := by decide +kernel
theorem dX0_addInstrument_37 : decode cX0_addInstrument 37 = .ok (.iastore, 1) := by decide +kernel
theorem dX0_addInstrument_38 : decode cX0_addInstrument 38 = .ok (.aload_n 0, 1) := by decide +kernel
theorem dX0_addInstrument_39 : decode cX0_addInstrument 39 = .ok (.getfield 15, 3) := by decide +kernel
theorem dX0_addInstrument_42 : decode cX0_addInstrument 42 = .ok (.aload_n 0, 1) := by decide +kernel
theorem dX0_addInstrument_43 : decode cX0_addInstrument 43 = .ok (.getfield 27, 3) := by decide +kernel
theorem dX0_addInstrument_46 : decode cX0_addInstrument 46 = .ok (.iload_n 2, 1) := by decide +kernel
theorem dX0_addInstrument_47 : decode cX0_addInstrument 47 = .ok (.iastore, 1) := by decide +kernel
theorem dX0_addInstrument_48 : decode cX0_addInstrument 48 = .ok (.aload_n 0, 1) := by decide +kernel
theorem dX0_addInstrument_49 : decode cX0_addInstrument 49 = .ok (.getfield 18, 3) := by decide +kernel
theorem dX0_addInstrument_52 : decode cX0_addInstrument 52 = .ok (.aload_n 0, 1) := by decide +kernel
theorem dX0_addInstrument_53 : decode cX0_addInstrument 53 = .ok (.getfield 27, 3) := by decide +kernel
theorem dX0_addInstrument_56 : decode cX0_addInstrument 56 = .ok (.iload_n 3, 1) := by decide +kernel
theorem dX0_addInstrument_57 : decode cX0_addInstrument 57 = .ok (.iastore, 1) := by decide +kernel
theorem dX0_addInstrument_58 : decode cX0_addInstrument 58 = .ok (.aload_n 0, 1) := by decide +kernel
theorem dX0_addInstrument_59 : decode cX0_addInstrument 59 = .ok (.dup, 1) := by decide +kernel
theorem dX0_addInstrument_60 : decode cX0_addInstrument 60 = .ok (.getfield 27, 3) := by decide +kernel
theorem dX0_addInstrument_63 : decode cX0_addInstrument 63 = .ok (.iconst 1, 1) := by decide +kernel
theorem dX0_addInstrument_64 : decode cX0_addInstrument 64 = .ok (.iadd, 1) := by decide +kernel
theorem dX0_addInstrument_65 : decode cX0_addInstrument 65 = .ok (.putfield 27, 3) := by decide +kernel
theorem dX0_addInstrument_68 : decode cX0_addInstrument 68 = .ok (.iconst 1, 1) := by decide +kernel
theorem dX0_addInstrument_69 : decode cX0_addInstrument 69 = .ok (.ireturn, 1) := by decide +kernel
theorem dX0_addBar_0 : decode cX0_addBar 0 = .ok (.aload_n 0, 1) := by decide +kernel
theorem dX0_addBar_1 : decode cX0_addBar 1 = .ok (.getfield 31, 3) := by decide +kernel
theorem dX0_addBar_4 : decode cX0_addBar 4 = .ok (.bipush 8, 2) := by decide +kernel
theorem dX0_addBar_6 : decode cX0_addBar 6 = .ok (.if_icmp .ge 15, 3) := by decide +kernel
theorem dX0_addBar_9 : decode cX0_addBar 9 = .ok (.iload_n 1, 1) := by decide +kernel
theorem dX0_addBar_10 : decode cX0_addBar 10 = .ok (.bipush 15, 2) := by decide +kernel
theorem dX0_addBar_12 : decode cX0_addBar 12 = .ok (.if_icmp .gt 9, 3) := by decide +kernel
theorem dX0_addBar_15 : decode cX0_addBar 15 = .ok (.iload_n 2, 1) := by decide +kernel
theorem dX0_addBar_16 : decode cX0_addBar 16 = .ok (.bipush 7, 2) := by decide +kernel
theorem dX0_addBar_18 : decode cX0_addBar 18 = .ok (.if_icmp .le 5, 3) := by decide +kernel
theorem dX0_addBar_21 : decode cX0_addBar 21 = .ok (.iconst 0, 1) := by decide +kernel
theorem dX0_addBar_22 : decode cX0_addBar 22 = .ok (.ireturn, 1) := by decide +kernel
theorem dX0_addBar_23 : decode cX0_addBar 23 = .ok (.aload_n 0, 1) := by decide +kernel
theorem dX0_addBar_24 : decode cX0_addBar 24 = .ok (.getfield 21, 3) := by decide +kernel
theorem dX0_addBar_27 : decode cX0_addBar 27 = .ok (.aload_n 0, 1) := by decide +kernel
theorem dX0_addBar_28 : decode cX0_addBar 28 = .ok (.getfield 31, 3) := by decide +kernel
theorem dX0_addBar_31 : decode cX0_addBar 31 = .ok (.iload_n 1, 1) := by decide +kernel
theorem dX0_addBar_32 : decode cX0_addBar 32 = .ok (.iload_n 2, 1) := by decide +kernel
theorem dX0_addBar_33 : decode cX0_addBar 33 = .ok (.iconst 4, 1) := by decide +kernel
theorem dX0_addBar_34 : decode cX0_addBar 34 = .ok (.ishl, 1) := by decide +kernel
theorem dX0_addBar_35 : decode cX0_addBar 35 = .ok (.ior, 1) := by decide +kernel
theorem dX0_addBar_36 : decode cX0_addBar 36 = .ok (.iastore, 1) := by decide +kernel
theorem dX0_addBar_37 : decode cX0_addBar 37 = .ok (.aload_n 0, 1) := by decide +kernel
theorem dX0_addBar_38 : decode cX0_addBar 38 = .ok (.dup, 1) := by decide +kernel
theorem dX0_addBar_39 : decode cX0_addBar 39 = .ok (.getfield 31, 3) := by decide +kernel
theorem dX0_addBar_42 : decode cX0_addBar 42 = .ok (.iconst 1, 1) := by decide +kernel
theorem dX0_addBar_43 : decode cX0_addBar 43 = .ok (.iadd, 1) := by decide +kernel
theorem dX0_addBar_44 : decode cX0_addBar 44 = .ok (.putfield 31, 3) := by decide +kernel
theorem dX0_addBar_47 : decode cX0_addBar 47 = .ok (.iconst 1, 1) := by decide +kernel
theorem dX0_addBar_48 : decode cX0_addBar 48 = .ok (.ireturn, 1) := by decide +kernel
theorem dX0_addSeat_0 : decode cX0_addSeat 0 = .ok (.iload_n 1, 1) := by decide +kernel
theorem dX0_addSeat_1 : decode cX0_addSeat 1 = .ok (.aload_n 0, 1) := by decide +kernel
theorem dX0_addSeat_2 : decode cX0_addSeat 2 = .ok (.getfield 27, 3) := by decide +kernel
theorem dX0_addSeat_5 : decode cX0_addSeat 5 = .ok (.if_icmp .lt 5, 3) := by decide +kernel
theorem dX0_addSeat_8 : decode cX0_addSeat 8 = .ok (.iconst 0, 1) := by decide +kernel
theorem dX0_addSeat_9 : decode cX0_addSeat 9 = .ok (.ireturn, 1) := by decide +kernel
theorem dX0_addSeat_10 : decode cX0_addSeat 10 = .ok (.aload_n 0, 1) := by decide +kernel
theorem dX0_addSeat_11 : decode cX0_addSeat 11 = .ok (.invokevirtual 46, 3) := by decide +kernel
theorem dX0_addSeat_14 : decode cX0_addSeat 14 = .ok (.iload_n 1, 1) := by decide +kernel
theorem dX0_addSeat_15 : decode cX0_addSeat 15 = .ok (.ishr, 1) := by decide +kernel
theorem dX0_addSeat_16 : decode cX0_addSeat 16 = .ok (.iconst 1, 1) := by decide +kernel
theorem dX0_addSeat_17 : decode cX0_addSeat 17 = .ok (.iand, 1) := by decide +kernel
theorem dX0_addSeat_18 : decode cX0_addSeat 18 = .ok (.ifCond .ne 32, 3) := by decide +kernel
theorem dX0_addSeat_21 : decode cX0_addSeat 21 = .ok (.aload_n 0, 1) := by decide +kernel
theorem dX0_addSeat_22 : decode cX0_addSeat 22 = .ok (.getfield 34, 3) := by decide +kernel
theorem dX0_addSeat_25 : decode cX0_addSeat 25 = .ok (.bipush 7, 2) := by decide +kernel
theorem dX0_addSeat_27 : decode cX0_addSeat 27 = .ok (.if_icmp .ge 23, 3) := by decide +kernel
theorem dX0_addSeat_30 : decode cX0_addSeat 30 = .ok (.aload_n 0, 1) := by decide +kernel
theorem dX0_addSeat_31 : decode cX0_addSeat 31 = .ok (.getfield 24, 3) := by decide +kernel
theorem dX0_addSeat_34 : decode cX0_addSeat 34 = .ok (.aload_n 0, 1) := by decide +kernel
theorem dX0_addSeat_35 : decode cX0_addSeat 35 = .ok (.getfield 34, 3) := by decide +kernel
theorem dX0_addSeat_38 : decode cX0_addSeat 38 = .ok (.iload_n 1, 1) := by decide +kernel
theorem dX0_addSeat_39 : decode cX0_addSeat 39 = .ok (.iastore, 1) := by decide +kernel
theorem dX0_addSeat_40 : decode cX0_addSeat 40 = .ok (.aload_n 0, 1) := by decide +kernel
theorem dX0_addSeat_41 : decode cX0_addSeat 41 = .ok (.dup, 1) := by decide +kernel
theorem dX0_addSeat_42 : decode cX0_addSeat 42 = .ok (.getfield 34, 3) := by decide +kernel
theorem dX0_addSeat_45 : decode cX0_addSeat 45 = .ok (.iconst 1, 1) := by decide +kernel
theorem dX0_addSeat_46 : decode cX0_addSeat 46 = .ok (.iadd, 1) := by decide +kernel
theorem dX0_addSeat_47 : decode cX0_addSeat 47 = .ok (.putfield 34, 3) := by decide +kernel
theorem dX0_addSeat_50 : decode cX0_addSeat 50 = .ok (.iconst 1, 1) := by decide +kernel
theorem dX0_addSeat_51 : decode cX0_addSeat 51 = .ok (.ireturn, 1) := by decide +kernel
theorem dX0_addGap_0 : decode cX0_addGap 0 = .ok (.iload_n 1, 1) := by decide +kernel
theorem dX0_addGap_1 : decode cX0_addGap 1 = .ok (.iconst 5, 1) := by decide +kernel
theorem dX0_addGap_2 : decode cX0_addGap 2 = .ok (.if_icmp .le 5, 3) := by decide +kernel
theorem dX0_addGap_5 : decode cX0_addGap 5 = .ok (.iconst 0, 1) := by decide +kernel
theorem dX0_addGap_6 : decode cX0_addGap 6 = .ok (.ireturn, 1) := by decide +kernel
theorem dX0_addGap_7 : decode cX0_addGap 7 = .ok (.aload_n 0, 1) := by decide +kernel
theorem dX0_addGap_8 : decode cX0_addGap 8 = .ok (.dup, 1) := by decide +kernel
theorem dX0_addGap_9 : decode cX0_addGap 9 = .ok (.getfield 37, 3) := by decide +kernel
theorem dX0_addGap_12 : decode cX0_addGap 12 = .ok (.iconst 1, 1) := by decide +kernel
theorem dX0_addGap_13 : decode cX0_addGap 13 = .ok (.iload_n 1, 1) := by decide +kernel
theorem dX0_addGap_14 : decode cX0_addGap 14 = .ok (.ishl, 1) := by decide +kernel
theorem dX0_addGap_15 : decode cX0_addGap 15 = .ok (.ior, 1) := by decide +kernel
theorem dX0_addGap_16 : decode cX0_addGap 16 = .ok (.putfield 37, 3) := by decide +kernel
theorem dX0_addGap_19 : decode cX0_addGap 19 = .ok (.iconst 1, 1) := by decide +kernel
theorem dX0_addGap_20 : decode cX0_addGap 20 = .ok (.ireturn, 1) := by decide +kernel
theorem dX0_hasAllItNames_0 : decode cX0_hasAllItNames 0 = .ok (.iconst 0, 1) := by decide +kernel
theorem dX0_hasAllItNames_1 : decode cX0_hasAllItNames 1 = .ok (.istore_n 1, 1) := by decide +kernel
theorem dX0_hasAllItNames_2 : decode cX0_hasAllItNames 2 = .ok (.iload_n 1, 1) := by decide +kernel
theorem dX0_hasAllItNames_3 : decode cX0_hasAllItNames 3 = .ok (.aload_n 0, 1) := by decide +kernel
theorem dX0_hasAllItNames_4 : decode cX0_hasAllItNames 4 = .ok (.getfield 27, 3) := by decide +kernel
theorem dX0_hasAllItNames_7 : decode cX0_hasAllItNames 7 = .ok (.if_icmp .ge 24, 3) := by decide +kernel
theorem dX0_hasAllItNames_10 : decode cX0_hasAllItNames 10 = .ok (.aload_n 0, 1) := by decide +kernel
theorem dX0_hasAllItNames_11 : decode cX0_hasAllItNames 11 = .ok (.getfield 15, 3) := by decide +kernel
theorem dX0_hasAllItNames_14 : decode cX0_hasAllItNames 14 = .ok (.iload_n 1, 1) := by decide +kernel
theorem dX0_hasAllItNames_15 : decode cX0_hasAllItNames 15 = .ok (.iaload, 1) := by decide +kernel
theorem dX0_hasAllItNames_16 : decode cX0_hasAllItNames 16 = .ok (.aload_n 0, 1) := by decide +kernel
theorem dX0_hasAllItNames_17 : decode cX0_hasAllItNames 17 = .ok (.getfield 27, 3) := by decide +kernel
theorem dX0_hasAllItNames_20 : decode cX0_hasAllItNames 20 = .ok (.if_icmp .lt 5, 3) := by decide +kernel
theorem dX0_hasAllItNames_23 : decode cX0_hasAllItNames 23 = .ok (.iconst 0, 1) := by decide +kernel
theorem dX0_hasAllItNames_24 : decode cX0_hasAllItNames 24 = .ok (.ireturn, 1) := by decide +kernel
theorem dX0_hasAllItNames_25 : decode cX0_hasAllItNames 25 = .ok (.iinc 1 1, 3) := by decide +kernel
theorem dX0_hasAllItNames_28 : decode cX0_hasAllItNames 28 = .ok (.goto (-26), 3) := by decide +kernel
theorem dX0_hasAllItNames_31 : decode cX0_hasAllItNames 31 = .ok (.iconst 0, 1) := by decide +kernel
theorem dX0_hasAllItNames_32 : decode cX0_hasAllItNames 32 = .ok (.istore_n 1, 1) := by decide +kernel
theorem dX0_hasAllItNames_33 : decode cX0_hasAllItNames 33 = .ok (.iload_n 1, 1) := by decide +kernel
theorem dX0_hasAllItNames_34 : decode cX0_hasAllItNames 34 = .ok (.aload_n 0, 1) := by decide +kernel
theorem dX0_hasAllItNames_35 : decode cX0_hasAllItNames 35 = .ok (.getfield 31, 3) := by decide +kernel
theorem dX0_hasAllItNames_38 : decode cX0_hasAllItNames 38 = .ok (.if_icmp .ge 25, 3) := by decide +kernel
theorem dX0_hasAllItNames_41 : decode cX0_hasAllItNames 41 = .ok (.aload_n 0, 1) := by decide +kernel
theorem dX0_hasAllItNames_42 : decode cX0_hasAllItNames 42 = .ok (.getfield 21, 3) := by decide +kernel
theorem dX0_hasAllItNames_45 : decode cX0_hasAllItNames 45 = .ok (.iload_n 1, 1) := by decide +kernel
theorem dX0_hasAllItNames_46 : decode cX0_hasAllItNames 46 = .ok (.iaload, 1) := by decide +kernel
theorem dX0_hasAllItNames_47 : decode cX0_hasAllItNames 47 = .ok (.aload_n 0, 1) := by decide +kernel
theorem dX0_hasAllItNames_48 : decode cX0_hasAllItNames 48 = .ok (.getfield 27, 3) := by decide +kernel
theorem dX0_hasAllItNames_51 : decode cX0_hasAllItNames 51 = .ok (.ishr, 1) := by decide +kernel
theorem dX0_hasAllItNames_52 : decode cX0_hasAllItNames 52 = .ok (.ifCond .eq 5, 3) := by decide +kernel
theorem dX0_hasAllItNames_55 : decode cX0_hasAllItNames 55 = .ok (.iconst 0, 1) := by decide +kernel
theorem dX0_hasAllItNames_56 : decode cX0_hasAllItNames 56 = .ok (.ireturn, 1) := by decide +kernel
theorem dX0_hasAllItNames_57 : decode cX0_hasAllItNames 57 = .ok (.iinc 1 1, 3) := by decide +kernel
theorem dX0_hasAllItNames_60 : decode cX0_hasAllItNames 60 = .ok (.goto (-27), 3) := by decide +kernel
theorem dX0_hasAllItNames_63 : decode cX0_hasAllItNames 63 = .ok (.aload_n 0, 1) := by decide +kernel
theorem dX0_hasAllItNames_64 : decode cX0_hasAllItNames 64 = .ok (.getfield 27, 3) := by decide +kernel
theorem dX0_hasAllItNames_67 : decode cX0_hasAllItNames 67 = .ok (.ifCond .le 7, 3) := by decide +kernel
theorem dX0_hasAllItNames_70 : decode cX0_hasAllItNames 70 = .ok (.iconst 1, 1) := by decide +kernel
theorem dX0_hasAllItNames_71 : decode cX0_hasAllItNames 71 = .ok (.goto 4, 3) := by decide +kernel
theorem dX0_hasAllItNames_74 : decode cX0_hasAllItNames 74 = .ok (.iconst 0, 1) := by decide +kernel
theorem dX0_hasAllItNames_75 : decode cX0_hasAllItNames 75 = .ok (.ireturn, 1) := by decide +kernel
theorem dX0_seatAll_0 : decode cX0_seatAll 0 = .ok (.aload_n 0, 1) := by decide +kernel
theorem dX0_seatAll_1 : decode cX0_seatAll 1 = .ok (.invokevirtual 46, 3) := by decide +kernel
theorem dX0_seatAll_4 : decode cX0_seatAll 4 = .ok (.istore_n 2, 1) := by decide +kernel
theorem dX0_seatAll_5 : decode cX0_seatAll 5 = .ok (.aload_n 0, 1) := by decide +kernel
theorem dX0_seatAll_6 : decode cX0_seatAll 6 = .ok (.getfield 34, 3) := by decide +kernel
theorem dX0_seatAll_9 : decode cX0_seatAll 9 = .ok (.istore_n 3, 1) := by decide +kernel
theorem dX0_seatAll_10 : decode cX0_seatAll 10 = .ok (.aload_n 0, 1) := by decide +kernel
theorem dX0_seatAll_11 : decode cX0_seatAll 11 = .ok (.getfield 24, 3) := by decide +kernel
theorem dX0_seatAll_14 : decode cX0_seatAll 14 = .ok (.iconst 0, 1) := by decide +kernel
theorem dX0_seatAll_15 : decode cX0_seatAll 15 = .ok (.aload_n 1, 1) := by decide +kernel
theorem dX0_seatAll_16 : decode cX0_seatAll 16 = .ok (.iconst 0, 1) := by decide +kernel
theorem dX0_seatAll_17 : decode cX0_seatAll 17 = .ok (.aload_n 1, 1) := by decide +kernel
theorem dX0_seatAll_18 : decode cX0_seatAll 18 = .ok (.arraylength, 1) := by decide +kernel
theorem dX0_seatAll_19 : decode cX0_seatAll 19 = .ok (.invokestatic 40, 3) := by decide +kernel
theorem dX0_seatAll_22 : decode cX0_seatAll 22 = .ok (.iconst 0, 1) := by decide +kernel
theorem dX0_seatAll_23 : decode cX0_seatAll 23 = .ok (.istore 4, 2) := by decide +kernel
theorem dX0_seatAll_25 : decode cX0_seatAll 25 = .ok (.iload 4, 2) := by decide +kernel
theorem dX0_seatAll_27 : decode cX0_seatAll 27 = .ok (.aload_n 0, 1) := by decide +kernel
theorem dX0_seatAll_28 : decode cX0_seatAll 28 = .ok (.getfield 27, 3) := by decide +kernel
theorem dX0_seatAll_31 : decode cX0_seatAll 31 = .ok (.if_icmp .ge 32, 3) := by decide +kernel
theorem dX0_seatAll_34 : decode cX0_seatAll 34 = .ok (.iload_n 3, 1) := by decide +kernel
theorem dX0_seatAll_35 : decode cX0_seatAll 35 = .ok (.aload_n 1, 1) := by decide +kernel
theorem dX0_seatAll_36 : decode cX0_seatAll 36 = .ok (.arraylength, 1) := by decide +kernel
theorem dX0_seatAll_37 : decode cX0_seatAll 37 = .ok (.if_icmp .ge 26, 3) := by decide +kernel
theorem dX0_seatAll_40 : decode cX0_seatAll 40 = .ok (.iload_n 2, 1) := by decide +kernel
theorem dX0_seatAll_41 : decode cX0_seatAll 41 = .ok (.iload 4, 2) := by decide +kernel
theorem dX0_seatAll_43 : decode cX0_seatAll 43 = .ok (.ishr, 1) := by decide +kernel
theorem dX0_seatAll_44 : decode cX0_seatAll 44 = .ok (.iconst 1, 1) := by decide +kernel
theorem dX0_seatAll_45 : decode cX0_seatAll 45 = .ok (.iand, 1) := by decide +kernel
theorem dX0_seatAll_46 : decode cX0_seatAll 46 = .ok (.ifCond .ne 11, 3) := by decide +kernel
theorem dX0_seatAll_49 : decode cX0_seatAll 49 = .ok (.aload_n 1, 1) := by decide +kernel
theorem dX0_seatAll_50 : decode cX0_seatAll 50 = .ok (.iload_n 3, 1) := by decide +kernel
theorem dX0_seatAll_51 : decode cX0_seatAll 51 = .ok (.iload 4, 2) := by decide +kernel
theorem dX0_seatAll_53 : decode cX0_seatAll 53 = .ok (.iastore, 1) := by decide +kernel
theorem dX0_seatAll_54 : decode cX0_seatAll 54 = .ok (.iinc 3 1, 3) := by decide +kernel
theorem dX0_seatAll_57 : decode cX0_seatAll 57 = .ok (.iinc 4 1, 3) := by decide +kernel
theorem dX0_seatAll_60 : decode cX0_seatAll 60 = .ok (.goto (-35), 3) := by decide +kernel
theorem dX0_seatAll_63 : decode cX0_seatAll 63 = .ok (.return_, 1) := by decide +kernel
theorem dX0_toldSet_0 : decode cX0_toldSet 0 = .ok (.iconst 0, 1) := by decide +kernel
theorem dX0_toldSet_1 : decode cX0_toldSet 1 = .ok (.istore_n 1, 1) := by decide +kernel
theorem dX0_toldSet_2 : decode cX0_toldSet 2 = .ok (.iconst 0, 1) := by decide +kernel
theorem dX0_toldSet_3 : decode cX0_toldSet 3 = .ok (.istore_n 2, 1) := by decide +kernel
theorem dX0_toldSet_4 : decode cX0_toldSet 4 = .ok (.iload_n 2, 1) := by decide +kernel
theorem dX0_toldSet_5 : decode cX0_toldSet 5 = .ok (.aload_n 0, 1) := by decide +kernel
theorem dX0_toldSet_6 : decode cX0_toldSet 6 = .ok (.getfield 34, 3) := by decide +kernel
theorem dX0_toldSet_9 : decode cX0_toldSet 9 = .ok (.if_icmp .ge 20, 3) := by decide +kernel
theorem dX0_toldSet_12 : decode cX0_toldSet 12 = .ok (.iload_n 1, 1) := by decide +kernel
theorem dX0_toldSet_13 : decode cX0_toldSet 13 = .ok (.iconst 1, 1) := by decide +kernel
theorem dX0_toldSet_14 : decode cX0_toldSet 14 = .ok (.aload_n 0, 1) := by decide +kernel
theorem dX0_toldSet_15 : decode cX0_toldSet 15 = .ok (.getfield 24, 3) := by decide +kernel
theorem dX0_toldSet_18 : decode cX0_toldSet 18 = .ok (.iload_n 2, 1) := by decide +kernel
theorem dX0_toldSet_19 : decode cX0_toldSet 19 = .ok (.iaload, 1) := by decide +kernel
theorem dX0_toldSet_20 : decode cX0_toldSet 20 = .ok (.ishl, 1) := by decide +kernel
theorem dX0_toldSet_21 : decode cX0_toldSet 21 = .ok (.ior, 1) := by decide +kernel
theorem dX0_toldSet_22 : decode cX0_toldSet 22 = .ok (.istore_n 1, 1) := by decide +kernel
theorem dX0_toldSet_23 : decode cX0_toldSet 23 = .ok (.iinc 2 1, 3) := by decide +kernel
theorem dX0_toldSet_26 : decode cX0_toldSet 26 = .ok (.goto (-22), 3) := by decide +kernel
theorem dX0_toldSet_29 : decode cX0_toldSet 29 = .ok (.iload_n 1, 1) := by decide +kernel
theorem dX0_toldSet_30 : decode cX0_toldSet 30 = .ok (.ireturn, 1) := by decide +kernel
theorem dX1_init_0 : decode cX1_init 0 = .ok (.aload_n 0, 1) := by decide +kernel
theorem dX1_init_1 : decode cX1_init 1 = .ok (.invokespecial 3, 3) := by decide +kernel
theorem dX1_init_4 : decode cX1_init 4 = .ok (.aload_n 0, 1) := by decide +kernel
theorem dX1_init_5 : decode cX1_init 5 = .ok (.bipush 7, 2) := by decide +kernel
theorem dX1_init_7 : decode cX1_init 7 = .ok (.newarray .int, 2) := by decide +kernel
theorem dX1_init_9 : decode cX1_init 9 = .ok (.putfield 9, 3) := by decide +kernel
theorem dX1_init_12 : decode cX1_init 12 = .ok (.aload_n 0, 1) := by decide +kernel
theorem dX1_init_13 : decode cX1_init 13 = .ok (.bipush 8, 2) := by decide +kernel
theorem dX1_init_15 : decode cX1_init 15 = .ok (.newarray .int, 2) := by decide +kernel
theorem dX1_init_17 : decode cX1_init 17 = .ok (.putfield 15, 3) := by decide +kernel
theorem dX1_init_20 : decode cX1_init 20 = .ok (.return_, 1) := by decide +kernel
theorem dX1_playAll_0 : decode cX1_playAll 0 = .ok (.aload_n 0, 1) := by decide +kernel
theorem dX1_playAll_1 : decode cX1_playAll 1 = .ok (.aload_n 1, 1) := by decide +kernel
theorem dX1_playAll_2 : decode cX1_playAll 2 = .ok (.getfield 18, 3) := by decide +kernel
theorem dX1_playAll_5 : decode cX1_playAll 5 = .ok (.aload_n 2, 1) := by decide +kernel
theorem dX1_playAll_6 : decode cX1_playAll 6 = .ok (.iload_n 3, 1) := by decide +kernel
theorem dX1_playAll_7 : decode cX1_playAll 7 = .ok (.invokevirtual 24, 3) := by decide +kernel
theorem dX1_playAll_10 : decode cX1_playAll 10 = .ok (.aload_n 0, 1) := by decide +kernel
theorem dX1_playAll_11 : decode cX1_playAll 11 = .ok (.aload_n 1, 1) := by decide +kernel
theorem dX1_playAll_12 : decode cX1_playAll 12 = .ok (.iload 4, 2) := by decide +kernel
theorem dX1_playAll_14 : decode cX1_playAll 14 = .ok (.invokevirtual 28, 3) := by decide +kernel
theorem dX1_playAll_17 : decode cX1_playAll 17 = .ok (.istore 6, 2) := by decide +kernel
theorem dX1_playAll_19 : decode cX1_playAll 19 = .ok (.iconst 0, 1) := by decide +kernel
theorem dX1_playAll_20 : decode cX1_playAll 20 = .ok (.istore 7, 2) := by decide +kernel
theorem dX1_playAll_22 : decode cX1_playAll 22 = .ok (.aload_n 0, 1) := by decide +kernel
theorem dX1_playAll_23 : decode cX1_playAll 23 = .ok (.iconst 0, 1) := by decide +kernel
theorem dX1_playAll_24 : decode cX1_playAll 24 = .ok (.putfield 32, 3) := by decide +kernel
theorem dX1_playAll_27 : decode cX1_playAll 27 = .ok (.aload_n 0, 1) := by decide +kernel
theorem dX1_playAll_28 : decode cX1_playAll 28 = .ok (.iconst 0, 1) := by decide +kernel
theorem dX1_playAll_29 : decode cX1_playAll 29 = .ok (.putfield 35, 3) := by decide +kernel
theorem dX1_playAll_32 : decode cX1_playAll 32 = .ok (.iconst 0, 1) := by decide +kernel
theorem dX1_playAll_33 : decode cX1_playAll 33 = .ok (.istore 8, 2) := by decide +kernel
theorem dX1_playAll_35 : decode cX1_playAll 35 = .ok (.iload 8, 2) := by decide +kernel
theorem dX1_playAll_37 : decode cX1_playAll 37 = .ok (.aload_n 1, 1) := by decide +kernel
theorem dX1_playAll_38 : decode cX1_playAll 38 = .ok (.getfield 38, 3) := by decide +kernel
theorem dX1_playAll_41 : decode cX1_playAll 41 = .ok (.if_icmp .ge 82, 3) := by decide +kernel
theorem dX1_playAll_44 : decode cX1_playAll 44 = .ok (.aload_n 1, 1) := by decide +kernel
theorem dX1_playAll_45 : decode cX1_playAll 45 = .ok (.getfield 41, 3) := by decide +kernel
theorem dX1_playAll_48 : decode cX1_playAll 48 = .ok (.iload 8, 2) := by decide +kernel
theorem dX1_playAll_50 : decode cX1_playAll 50 = .ok (.iaload, 1) := by decide +kernel
theorem dX1_playAll_51 : decode cX1_playAll 51 = .ok (.iload 5, 2) := by decide +kernel
theorem dX1_playAll_53 : decode cX1_playAll 53 = .ok (.iand, 1) := by decide +kernel
theorem dX1_playAll_54 : decode cX1_playAll 54 = .ok (.istore 9, 2) := by decide +kernel
theorem dX1_playAll_56 : decode cX1_playAll 56 = .ok (.iload 9, 2) := by decide +kernel
theorem dX1_playAll_58 : decode cX1_playAll 58 = .ok (.iload 6, 2) := by decide +kernel
theorem dX1_playAll_60 : decode cX1_playAll 60 = .ok (.aload_n 0, 1) := by decide +kernel
theorem dX1_playAll_61 : decode cX1_playAll 61 = .ok (.aload_n 1, 1) := by decide +kernel
theorem dX1_playAll_62 : decode cX1_playAll 62 = .ok (.iload 8, 2) := by decide +kernel
theorem dX1_playAll_64 : decode cX1_playAll 64 = .ok (.iload 7, 2) := by decide +kernel
theorem dX1_playAll_66 : decode cX1_playAll 66 = .ok (.invokevirtual 44, 3) := by decide +kernel
theorem dX1_playAll_69 : decode cX1_playAll 69 = .ok (.ior, 1) := by decide +kernel
theorem dX1_playAll_70 : decode cX1_playAll 70 = .ok (.iand, 1) := by decide +kernel
theorem dX1_playAll_71 : decode cX1_playAll 71 = .ok (.istore 7, 2) := by decide +kernel
theorem dX1_playAll_73 : decode cX1_playAll 73 = .ok (.aload_n 0, 1) := by decide +kernel
theorem dX1_playAll_74 : decode cX1_playAll 74 = .ok (.getfield 15, 3) := by decide +kernel
theorem dX1_playAll_77 : decode cX1_playAll 77 = .ok (.iload 8, 2) := by decide +kernel
theorem dX1_playAll_79 : decode cX1_playAll 79 = .ok (.iload 7, 2) := by decide +kernel
theorem dX1_playAll_81 : decode cX1_playAll 81 = .ok (.iastore, 1) := by decide +kernel
theorem dX1_playAll_82 : decode cX1_playAll 82 = .ok (.aload_n 0, 1) := by decide +kernel
theorem dX1_playAll_83 : decode cX1_playAll 83 = .ok (.dup, 1) := by decide +kernel
theorem dX1_playAll_84 : decode cX1_playAll 84 = .ok (.getfield 32, 3) := by decide +kernel
theorem dX1_playAll_87 : decode cX1_playAll 87 = .ok (.iload 7, 2) := by decide +kernel
theorem dX1_playAll_89 : decode cX1_playAll 89 = .ok (.invokestatic 48, 3) := by decide +kernel
theorem dX1_playAll_92 : decode cX1_playAll 92 = .ok (.iadd, 1) := by decide +kernel
theorem dX1_playAll_93 : decode cX1_playAll 93 = .ok (.putfield 32, 3) := by decide +kernel
theorem dX1_playAll_96 : decode cX1_playAll 96 = .ok (.aload_n 0, 1) := by decide +kernel
theorem dX1_playAll_97 : decode cX1_playAll 97 = .ok (.dup, 1) := by decide +kernel
theorem dX1_playAll_98 : decode cX1_playAll 98 = .ok (.getfield 35, 3) := by decide +kernel
theorem dX1_playAll_101 : decode cX1_playAll 101 = .ok (.iload 7, 2) := by decide +kernel
theorem dX1_playAll_103 : decode cX1_playAll 103 = .ok (.iload 9, 2) := by decide +kernel
theorem dX1_playAll_105 : decode cX1_playAll 105 = .ok (.if_icmp .ne 7, 3) := by decide +kernel
theorem dX1_playAll_108 : decode cX1_playAll 108 = .ok (.iconst 1, 1) := by decide +kernel
theorem dX1_playAll_109 : decode cX1_playAll 109 = .ok (.goto 4, 3) := by decide +kernel
theorem dX1_playAll_112 : decode cX1_playAll 112 = .ok (.iconst 0, 1) := by decide +kernel
theorem dX1_playAll_113 : decode cX1_playAll 113 = .ok (.iadd, 1) := by decide +kernel
theorem dX1_playAll_114 : decode cX1_playAll 114 = .ok (.putfield 35, 3) := by decide +kernel
theorem dX1_playAll_117 : decode cX1_playAll 117 = .ok (.iinc 8 1, 3) := by decide +kernel
theorem dX1_playAll_120 : decode cX1_playAll 120 = .ok (.goto (-85), 3) := by decide +kernel
theorem dX1_playAll_123 : decode cX1_playAll 123 = .ok (.return_, 1) := by decide +kernel
theorem dX1_lookAround_0 : decode cX1_lookAround 0 = .ok (.iconst 0, 1) := by decide +kernel
theorem dX1_lookAround_1 : decode cX1_lookAround 1 = .ok (.istore 4, 2) := by decide +kernel
theorem dX1_lookAround_3 : decode cX1_lookAround 3 = .ok (.iload 4, 2) := by decide +kernel
theorem dX1_lookAround_5 : decode cX1_lookAround 5 = .ok (.iload_n 1, 1) := by decide +kernel
theorem dX1_lookAround_6 : decode cX1_lookAround 6 = .ok (.if_icmp .ge 100, 3) := by decide +kernel
theorem dX1_lookAround_9 : decode cX1_lookAround 9 = .ok (.iload 4, 2) := by decide +kernel
theorem dX1_lookAround_11 : decode cX1_lookAround 11 = .ok (.ifCond .le 18, 3) := by decide +kernel
theorem dX1_lookAround_14 : decode cX1_lookAround 14 = .ok (.iload_n 3, 1) := by decide +kernel
theorem dX1_lookAround_15 : decode cX1_lookAround 15 = .ok (.iload 4, 2) := by decide +kernel
theorem dX1_lookAround_17 : decode cX1_lookAround 17 = .ok (.iconst 1, 1) := by decide +kernel
theorem dX1_lookAround_18 : decode cX1_lookAround 18 = .ok (.isub, 1) := by decide +kernel
theorem dX1_lookAround_19 : decode cX1_lookAround 19 = .ok (.ishr, 1) := by decide +kernel
theorem dX1_lookAround_20 : decode cX1_lookAround 20 = .ok (.iconst 1, 1) := by decide +kernel
theorem dX1_lookAround_21 : decode cX1_lookAround 21 = .ok (.iand, 1) := by decide +kernel
theorem dX1_lookAround_22 : decode cX1_lookAround 22 = .ok (.ifCond .ne 7, 3) := by decide +kernel
theorem dX1_lookAround_25 : decode cX1_lookAround 25 = .ok (.iconst 1, 1) := by decide +kernel
theorem dX1_lookAround_26 : decode cX1_lookAround 26 = .ok (.goto 4, 3) := by decide +kernel
theorem dX1_lookAround_29 : decode cX1_lookAround 29 = .ok (.iconst 0, 1) := by decide +kernel
theorem dX1_lookAround_30 : decode cX1_lookAround 30 = .ok (.istore 5, 2) := by decide +kernel
theorem dX1_lookAround_32 : decode cX1_lookAround 32 = .ok (.iload 4, 2) := by decide +kernel
theorem dX1_lookAround_34 : decode cX1_lookAround 34 = .ok (.iconst 1, 1) := by decide +kernel
theorem dX1_lookAround_35 : decode cX1_lookAround 35 = .ok (.iadd, 1) := by decide +kernel
theorem dX1_lookAround_36 : decode cX1_lookAround 36 = .ok (.iload_n 1, 1) := by decide +kernel
theorem dX1_lookAround_37 : decode cX1_lookAround 37 = .ok (.if_icmp .ge 16, 3) := by decide +kernel
theorem dX1_lookAround_40 : decode cX1_lookAround 40 = .ok (.iload_n 3, 1) := by decide +kernel
theorem dX1_lookAround_41 : decode cX1_lookAround 41 = .ok (.iload 4, 2) := by decide +kernel
theorem dX1_lookAround_43 : decode cX1_lookAround 43 = .ok (.ishr, 1) := by decide +kernel
theorem dX1_lookAround_44 : decode cX1_lookAround 44 = .ok (.iconst 1, 1) := by decide +kernel
theorem dX1_lookAround_45 : decode cX1_lookAround 45 = .ok (.iand, 1) := by decide +kernel
theorem dX1_lookAround_46 : decode cX1_lookAround 46 = .ok (.ifCond .ne 7, 3) := by decide +kernel
theorem dX1_lookAround_49 : decode cX1_lookAround 49 = .ok (.iconst 1, 1) := by decide +kernel
theorem dX1_lookAround_50 : decode cX1_lookAround 50 = .ok (.goto 4, 3) := by decide +kernel
theorem dX1_lookAround_53 : decode cX1_lookAround 53 = .ok (.iconst 0, 1) := by decide +kernel
theorem dX1_lookAround_54 : decode cX1_lookAround 54 = .ok (.istore 6, 2) := by decide +kernel
theorem dX1_lookAround_56 : decode cX1_lookAround 56 = .ok (.aload_n 0, 1) := by decide +kernel
theorem dX1_lookAround_57 : decode cX1_lookAround 57 = .ok (.getfield 9, 3) := by decide +kernel
theorem dX1_lookAround_60 : decode cX1_lookAround 60 = .ok (.aload_n 2, 1) := by decide +kernel
theorem dX1_lookAround_61 : decode cX1_lookAround 61 = .ok (.iload 4, 2) := by decide +kernel
theorem dX1_lookAround_63 : decode cX1_lookAround 63 = .ok (.iaload, 1) := by decide +kernel
theorem dX1_lookAround_64 : decode cX1_lookAround 64 = .ok (.iload 5, 2) := by decide +kernel
theorem dX1_lookAround_66 : decode cX1_lookAround 66 = .ok (.ifCond .eq 14, 3) := by decide +kernel
theorem dX1_lookAround_69 : decode cX1_lookAround 69 = .ok (.iconst 1, 1) := by decide +kernel
theorem dX1_lookAround_70 : decode cX1_lookAround 70 = .ok (.aload_n 2, 1) := by decide +kernel
theorem dX1_lookAround_71 : decode cX1_lookAround 71 = .ok (.iload 4, 2) := by decide +kernel
theorem dX1_lookAround_73 : decode cX1_lookAround 73 = .ok (.iconst 1, 1) := by decide +kernel
theorem dX1_lookAround_74 : decode cX1_lookAround 74 = .ok (.isub, 1) := by decide +kernel
theorem dX1_lookAround_75 : decode cX1_lookAround 75 = .ok (.iaload, 1) := by decide +kernel
theorem dX1_lookAround_76 : decode cX1_lookAround 76 = .ok (.ishl, 1) := by decide +kernel
theorem dX1_lookAround_77 : decode cX1_lookAround 77 = .ok (.goto 4, 3) := by decide +kernel
theorem dX1_lookAround_80 : decode cX1_lookAround 80 = .ok (.iconst 0, 1) := by decide +kernel
theorem dX1_lookAround_81 : decode cX1_lookAround 81 = .ok (.iload 6, 2) := by decide +kernel
theorem dX1_lookAround_83 : decode cX1_lookAround 83 = .ok (.ifCond .eq 14, 3) := by decide +kernel
theorem dX1_lookAround_86 : decode cX1_lookAround 86 = .ok (.iconst 1, 1) := by decide +kernel
theorem dX1_lookAround_87 : decode cX1_lookAround 87 = .ok (.aload_n 2, 1) := by decide +kernel
theorem dX1_lookAround_88 : decode cX1_lookAround 88 = .ok (.iload 4, 2) := by decide +kernel
theorem dX1_lookAround_90 : decode cX1_lookAround 90 = .ok (.iconst 1, 1) := by decide +kernel
theorem dX1_lookAround_91 : decode cX1_lookAround 91 = .ok (.iadd, 1) := by decide +kernel
theorem dX1_lookAround_92 : decode cX1_lookAround 92 = .ok (.iaload, 1) := by decide +kernel
theorem dX1_lookAround_93 : decode cX1_lookAround 93 = .ok (.ishl, 1) := by decide +kernel
theorem dX1_lookAround_94 : decode cX1_lookAround 94 = .ok (.goto 4, 3) := by decide +kernel
theorem dX1_lookAround_97 : decode cX1_lookAround 97 = .ok (.iconst 0, 1) := by decide +kernel
theorem dX1_lookAround_98 : decode cX1_lookAround 98 = .ok (.ior, 1) := by decide +kernel
theorem dX1_lookAround_99 : decode cX1_lookAround 99 = .ok (.iastore, 1) := by decide +kernel
theorem dX1_lookAround_100 : decode cX1_lookAround 100 = .ok (.iinc 4 1, 3) := by decide +kernel
theorem dX1_lookAround_103 : decode cX1_lookAround 103 = .ok (.goto (-100), 3) := by decide +kernel
theorem dX1_lookAround_106 : decode cX1_lookAround 106 = .ok (.return_, 1) := by decide +kernel
theorem dX1_comeAnyway_0 : decode cX1_comeAnyway 0 = .ok (.iload_n 2, 1) := by decide +kernel
theorem dX1_comeAnyway_1 : decode cX1_comeAnyway 1 = .ok (.istore_n 3, 1) := by decide +kernel
theorem dX1_comeAnyway_2 : decode cX1_comeAnyway 2 = .ok (.iconst 0, 1) := by decide +kernel
theorem dX1_comeAnyway_3 : decode cX1_comeAnyway 3 = .ok (.istore 4, 2) := by decide +kernel
theorem dX1_comeAnyway_5 : decode cX1_comeAnyway 5 = .ok (.iload 4, 2) := by decide +kernel
theorem dX1_comeAnyway_7 : decode cX1_comeAnyway 7 = .ok (.aload_n 1, 1) := by decide +kernel
theorem dX1_comeAnyway_8 : decode cX1_comeAnyway 8 = .ok (.getfield 18, 3) := by decide +kernel
theorem dX1_comeAnyway_11 : decode cX1_comeAnyway 11 = .ok (.if_icmp .ge 56, 3) := by decide +kernel
theorem dX1_comeAnyway_14 : decode cX1_comeAnyway 14 = .ok (.aload_n 1, 1) := by decide +kernel
theorem dX1_comeAnyway_15 : decode cX1_comeAnyway 15 = .ok (.getfield 54, 3) := by decide +kernel
theorem dX1_comeAnyway_18 : decode cX1_comeAnyway 18 = .ok (.iload 4, 2) := by decide +kernel
theorem dX1_comeAnyway_20 : decode cX1_comeAnyway 20 = .ok (.iaload, 1) := by decide +kernel
theorem dX1_comeAnyway_21 : decode cX1_comeAnyway 21 = .ok (.istore 5, 2) := by decide +kernel
theorem dX1_comeAnyway_23 : decode cX1_comeAnyway 23 = .ok (.iload 5, 2) := by decide +kernel
theorem dX1_comeAnyway_25 : decode cX1_comeAnyway 25 = .ok (.ifCond .eq 29, 3) := by decide +kernel
theorem dX1_comeAnyway_28 : decode cX1_comeAnyway 28 = .ok (.iload 5, 2) := by decide +kernel
theorem dX1_comeAnyway_30 : decode cX1_comeAnyway 30 = .ok (.iconst 1, 1) := by decide +kernel
theorem dX1_comeAnyway_31 : decode cX1_comeAnyway 31 = .ok (.if_icmp .ne 30, 3) := by decide +kernel
theorem dX1_comeAnyway_34 : decode cX1_comeAnyway 34 = .ok (.aload_n 0, 1) := by decide +kernel
theorem dX1_comeAnyway_35 : decode cX1_comeAnyway 35 = .ok (.getfield 9, 3) := by decide +kernel
theorem dX1_comeAnyway_38 : decode cX1_comeAnyway 38 = .ok (.iload 4, 2) := by decide +kernel
theorem dX1_comeAnyway_40 : decode cX1_comeAnyway 40 = .ok (.iaload, 1) := by decide +kernel
theorem dX1_comeAnyway_41 : decode cX1_comeAnyway 41 = .ok (.aload_n 1, 1) := by decide +kernel
theorem dX1_comeAnyway_42 : decode cX1_comeAnyway 42 = .ok (.getfield 57, 3) := by decide +kernel
theorem dX1_comeAnyway_45 : decode cX1_comeAnyway 45 = .ok (.iload 4, 2) := by decide +kernel
theorem dX1_comeAnyway_47 : decode cX1_comeAnyway 47 = .ok (.iaload, 1) := by decide +kernel
theorem dX1_comeAnyway_48 : decode cX1_comeAnyway 48 = .ok (.ishr, 1) := by decide +kernel
theorem dX1_comeAnyway_49 : decode cX1_comeAnyway 49 = .ok (.iconst 1, 1) := by decide +kernel
theorem dX1_comeAnyway_50 : decode cX1_comeAnyway 50 = .ok (.iand, 1) := by decide +kernel
theorem dX1_comeAnyway_51 : decode cX1_comeAnyway 51 = .ok (.ifCond .ne 10, 3) := by decide +kernel
theorem dX1_comeAnyway_54 : decode cX1_comeAnyway 54 = .ok (.iload_n 3, 1) := by decide +kernel
theorem dX1_comeAnyway_55 : decode cX1_comeAnyway 55 = .ok (.iconst 1, 1) := by decide +kernel
theorem dX1_comeAnyway_56 : decode cX1_comeAnyway 56 = .ok (.iload 4, 2) := by decide +kernel
theorem dX1_comeAnyway_58 : decode cX1_comeAnyway 58 = .ok (.ishl, 1) := by decide +kernel
theorem dX1_comeAnyway_59 : decode cX1_comeAnyway 59 = .ok (.ior, 1) := by decide +kernel
theorem dX1_comeAnyway_60 : decode cX1_comeAnyway 60 = .ok (.istore_n 3, 1) := by decide +kernel
theorem dX1_comeAnyway_61 : decode cX1_comeAnyway 61 = .ok (.iinc 4 1, 3) := by decide +kernel
theorem dX1_comeAnyway_64 : decode cX1_comeAnyway 64 = .ok (.goto (-59), 3) := by decide +kernel
theorem dX1_comeAnyway_67 : decode cX1_comeAnyway 67 = .ok (.iload_n 3, 1) := by decide +kernel
theorem dX1_comeAnyway_68 : decode cX1_comeAnyway 68 = .ok (.ireturn, 1) := by decide +kernel
theorem dX1_comeAfter_0 : decode cX1_comeAfter 0 = .ok (.iconst 0, 1) := by decide +kernel
theorem dX1_comeAfter_1 : decode cX1_comeAfter 1 = .ok (.istore 4, 2) := by decide +kernel
theorem dX1_comeAfter_3 : decode cX1_comeAfter 3 = .ok (.iconst 0, 1) := by decide +kernel
theorem dX1_comeAfter_4 : decode cX1_comeAfter 4 = .ok (.istore 5, 2) := by decide +kernel
theorem dX1_comeAfter_6 : decode cX1_comeAfter 6 = .ok (.iload 5, 2) := by decide +kernel
theorem dX1_comeAfter_8 : decode cX1_comeAfter 8 = .ok (.aload_n 1, 1) := by decide +kernel
theorem dX1_comeAfter_9 : decode cX1_comeAfter 9 = .ok (.getfield 18, 3) := by decide +kernel
theorem dX1_comeAfter_12 : decode cX1_comeAfter 12 = .ok (.if_icmp .ge 93, 3) := by decide +kernel
theorem dX1_comeAfter_15 : decode cX1_comeAfter 15 = .ok (.aload_n 1, 1) := by decide +kernel
theorem dX1_comeAfter_16 : decode cX1_comeAfter 16 = .ok (.getfield 54, 3) := by decide +kernel
theorem dX1_comeAfter_19 : decode cX1_comeAfter 19 = .ok (.iload 5, 2) := by decide +kernel
theorem dX1_comeAfter_21 : decode cX1_comeAfter 21 = .ok (.iaload, 1) := by decide +kernel
theorem dX1_comeAfter_22 : decode cX1_comeAfter 22 = .ok (.istore 6, 2) := by decide +kernel
theorem dX1_comeAfter_24 : decode cX1_comeAfter 24 = .ok (.iload 6, 2) := by decide +kernel
theorem dX1_comeAfter_26 : decode cX1_comeAfter 26 = .ok (.iconst 1, 1) := by decide +kernel
theorem dX1_comeAfter_27 : decode cX1_comeAfter 27 = .ok (.if_icmp .gt 6, 3) := by decide +kernel
theorem dX1_comeAfter_30 : decode cX1_comeAfter 30 = .ok (.goto 69, 3) := by decide +kernel
theorem dX1_comeAfter_33 : decode cX1_comeAfter 33 = .ok (.iload 6, 2) := by decide +kernel
theorem dX1_comeAfter_35 : decode cX1_comeAfter 35 = .ok (.iconst 2, 1) := by decide +kernel
theorem dX1_comeAfter_36 : decode cX1_comeAfter 36 = .ok (.if_icmp .ne 26, 3) := by decide +kernel
theorem dX1_comeAfter_39 : decode cX1_comeAfter 39 = .ok (.iload_n 3, 1) := by decide +kernel
theorem dX1_comeAfter_40 : decode cX1_comeAfter 40 = .ok (.aload_n 1, 1) := by decide +kernel
theorem dX1_comeAfter_41 : decode cX1_comeAfter 41 = .ok (.getfield 57, 3) := by decide +kernel
theorem dX1_comeAfter_44 : decode cX1_comeAfter 44 = .ok (.iload 5, 2) := by decide +kernel
theorem dX1_comeAfter_46 : decode cX1_comeAfter 46 = .ok (.iaload, 1) := by decide +kernel
theorem dX1_comeAfter_47 : decode cX1_comeAfter 47 = .ok (.ishr, 1) := by decide +kernel
theorem dX1_comeAfter_48 : decode cX1_comeAfter 48 = .ok (.iconst 1, 1) := by decide +kernel
theorem dX1_comeAfter_49 : decode cX1_comeAfter 49 = .ok (.iand, 1) := by decide +kernel
theorem dX1_comeAfter_50 : decode cX1_comeAfter 50 = .ok (.iconst 1, 1) := by decide +kernel
theorem dX1_comeAfter_51 : decode cX1_comeAfter 51 = .ok (.if_icmp .ne 7, 3) := by decide +kernel
theorem dX1_comeAfter_54 : decode cX1_comeAfter 54 = .ok (.iconst 1, 1) := by decide +kernel
theorem dX1_comeAfter_55 : decode cX1_comeAfter 55 = .ok (.goto 24, 3) := by decide +kernel
theorem dX1_comeAfter_58 : decode cX1_comeAfter 58 = .ok (.iconst 0, 1) := by decide +kernel
theorem dX1_comeAfter_59 : decode cX1_comeAfter 59 = .ok (.goto 20, 3) := by decide +kernel
theorem dX1_comeAfter_62 : decode cX1_comeAfter 62 = .ok (.iload_n 3, 1) := by decide +kernel
theorem dX1_comeAfter_63 : decode cX1_comeAfter 63 = .ok (.aload_n 0, 1) := by decide +kernel
theorem dX1_comeAfter_64 : decode cX1_comeAfter 64 = .ok (.getfield 9, 3) := by decide +kernel
theorem dX1_comeAfter_67 : decode cX1_comeAfter 67 = .ok (.iload 5, 2) := by decide +kernel
theorem dX1_comeAfter_69 : decode cX1_comeAfter 69 = .ok (.iaload, 1) := by decide +kernel
theorem dX1_comeAfter_70 : decode cX1_comeAfter 70 = .ok (.iand, 1) := by decide +kernel
theorem dX1_comeAfter_71 : decode cX1_comeAfter 71 = .ok (.ifCond .ne 7, 3) := by decide +kernel
theorem dX1_comeAfter_74 : decode cX1_comeAfter 74 = .ok (.iconst 1, 1) := by decide +kernel
theorem dX1_comeAfter_75 : decode cX1_comeAfter 75 = .ok (.goto 4, 3) := by decide +kernel
theorem dX1_comeAfter_78 : decode cX1_comeAfter 78 = .ok (.iconst 0, 1) := by decide +kernel
theorem dX1_comeAfter_79 : decode cX1_comeAfter 79 = .ok (.istore 7, 2) := by decide +kernel
theorem dX1_comeAfter_81 : decode cX1_comeAfter 81 = .ok (.iload 7, 2) := by decide +kernel
theorem dX1_comeAfter_83 : decode cX1_comeAfter 83 = .ok (.ifCond .ne 7, 3) := by decide +kernel
theorem dX1_comeAfter_86 : decode cX1_comeAfter 86 = .ok (.iload_n 2, 1) := by decide +kernel
theorem dX1_comeAfter_87 : decode cX1_comeAfter 87 = .ok (.ifCond .ne 12, 3) := by decide +kernel
theorem dX1_comeAfter_90 : decode cX1_comeAfter 90 = .ok (.iload 4, 2) := by decide +kernel
theorem dX1_comeAfter_92 : decode cX1_comeAfter 92 = .ok (.iconst 1, 1) := by decide +kernel
theorem dX1_comeAfter_93 : decode cX1_comeAfter 93 = .ok (.iload 5, 2) := by decide +kernel
theorem dX1_comeAfter_95 : decode cX1_comeAfter 95 = .ok (.ishl, 1) := by decide +kernel
theorem dX1_comeAfter_96 : decode cX1_comeAfter 96 = .ok (.ior, 1) := by decide +kernel
theorem dX1_comeAfter_97 : decode cX1_comeAfter 97 = .ok (.istore 4, 2) := by decide +kernel
theorem dX1_comeAfter_99 : decode cX1_comeAfter 99 = .ok (.iinc 5 1, 3) := by decide +kernel
theorem dX1_comeAfter_102 : decode cX1_comeAfter 102 = .ok (.goto (-96), 3) := by decide +kernel
theorem dX1_comeAfter_105 : decode cX1_comeAfter 105 = .ok (.iload 4, 2) := by decide +kernel
theorem dX1_comeAfter_107 : decode cX1_comeAfter 107 = .ok (.ireturn, 1) := by decide +kernel
theorem dX2_init_0 : decode cX2_init 0 = .ok (.aload_n 0, 1) := by decide +kernel
theorem dX2_init_1 : decode cX2_init 1 = .ok (.invokespecial 3, 3) := by decide +kernel
theorem dX2_init_4 : decode cX2_init 4 = .ok (.aload_n 0, 1) := by decide +kernel
theorem dX2_init_5 : decode cX2_init 5 = .ok (.new 9, 3) := by decide +kernel
theorem dX2_init_8 : decode cX2_init 8 = .ok (.dup, 1) := by decide +kernel
theorem dX2_init_9 : decode cX2_init 9 = .ok (.invokespecial 11, 3) := by decide +kernel
theorem dX2_init_12 : decode cX2_init 12 = .ok (.putfield 12, 3) := by decide +kernel
theorem dX2_init_15 : decode cX2_init 15 = .ok (.aload_n 0, 1) := by decide +kernel
theorem dX2_init_16 : decode cX2_init 16 = .ok (.sipush 200, 3) := by decide +kernel
theorem dX2_init_19 : decode cX2_init 19 = .ok (.newarray .char, 2) := by decide +kernel
theorem dX2_init_21 : decode cX2_init 21 = .ok (.putfield 18, 3) := by decide +kernel
theorem dX2_init_24 : decode cX2_init 24 = .ok (.aload_n 0, 1) := by decide +kernel
theorem dX2_init_25 : decode cX2_init 25 = .ok (.iconst 3, 1) := by decide +kernel
theorem dX2_init_26 : decode cX2_init 26 = .ok (.newarray .int, 2) := by decide +kernel
theorem dX2_init_28 : decode cX2_init 28 = .ok (.putfield 22, 3) := by decide +kernel
theorem dX2_init_31 : decode cX2_init 31 = .ok (.return_, 1) := by decide +kernel
theorem dX2_append_0 : decode cX2_append 0 = .ok (.aload_n 0, 1) := by decide +kernel
theorem dX2_append_1 : decode cX2_append 1 = .ok (.getfield 26, 3) := by decide +kernel
theorem dX2_append_4 : decode cX2_append 4 = .ok (.sipush 200, 3) := by decide +kernel
theorem dX2_append_7 : decode cX2_append 7 = .ok (.if_icmp .lt 5, 3) := by decide +kernel
theorem dX2_append_10 : decode cX2_append 10 = .ok (.iconst 0, 1) := by decide +kernel
theorem dX2_append_11 : decode cX2_append 11 = .ok (.ireturn, 1) := by decide +kernel
theorem dX2_append_12 : decode cX2_append 12 = .ok (.aload_n 0, 1) := by decide +kernel
theorem dX2_append_13 : decode cX2_append 13 = .ok (.getfield 18, 3) := by decide +kernel
theorem dX2_append_16 : decode cX2_append 16 = .ok (.aload_n 0, 1) := by decide +kernel
theorem dX2_append_17 : decode cX2_append 17 = .ok (.getfield 26, 3) := by decide +kernel
theorem dX2_append_20 : decode cX2_append 20 = .ok (.iload_n 1, 1) := by decide +kernel
theorem dX2_append_21 : decode cX2_append 21 = .ok (.castore, 1) := by decide +kernel
theorem dX2_append_22 : decode cX2_append 22 = .ok (.aload_n 0, 1) := by decide +kernel
theorem dX2_append_23 : decode cX2_append 23 = .ok (.dup, 1) := by decide +kernel
theorem dX2_append_24 : decode cX2_append 24 = .ok (.getfield 26, 3) := by decide +kernel
theorem dX2_append_27 : decode cX2_append 27 = .ok (.iconst 1, 1) := by decide +kernel
theorem dX2_append_28 : decode cX2_append 28 = .ok (.iadd, 1) := by decide +kernel
theorem dX2_append_29 : decode cX2_append 29 = .ok (.putfield 26, 3) := by decide +kernel
theorem dX2_append_32 : decode cX2_append 32 = .ok (.iconst 1, 1) := by decide +kernel
theorem dX2_append_33 : decode cX2_append 33 = .ok (.ireturn, 1) := by decide +kernel
theorem dX2_readAll_0 : decode cX2_readAll 0 = .ok (.aload_n 0, 1) := by decide +kernel
theorem dX2_readAll_1 : decode cX2_readAll 1 = .ok (.getfield 12, 3) := by decide +kernel
theorem dX2_readAll_4 : decode cX2_readAll 4 = .ok (.invokevirtual 30, 3) := by decide +kernel
theorem dX2_readAll_7 : decode cX2_readAll 7 = .ok (.iconst 0, 1) := by decide +kernel
theorem dX2_readAll_8 : decode cX2_readAll 8 = .ok (.istore_n 1, 1) := by decide +kernel
theorem dX2_readAll_9 : decode cX2_readAll 9 = .ok (.iload_n 1, 1) := by decide +kernel
theorem dX2_readAll_10 : decode cX2_readAll 10 = .ok (.aload_n 0, 1) := by decide +kernel
theorem dX2_readAll_11 : decode cX2_readAll 11 = .ok (.getfield 26, 3) := by decide +kernel
theorem dX2_readAll_14 : decode cX2_readAll 14 = .ok (.if_icmp .ge 34, 3) := by decide +kernel
theorem dX2_readAll_17 : decode cX2_readAll 17 = .ok (.aload_n 0, 1) := by decide +kernel
theorem dX2_readAll_18 : decode cX2_readAll 18 = .ok (.iload_n 1, 1) := by decide +kernel
theorem dX2_readAll_19 : decode cX2_readAll 19 = .ok (.invokevirtual 33, 3) := by decide +kernel
theorem dX2_readAll_22 : decode cX2_readAll 22 = .ok (.istore_n 2, 1) := by decide +kernel
theorem dX2_readAll_23 : decode cX2_readAll 23 = .ok (.iload_n 2, 1) := by decide +kernel
theorem dX2_readAll_24 : decode cX2_readAll 24 = .ok (.iload_n 1, 1) := by decide +kernel
theorem dX2_readAll_25 : decode cX2_readAll 25 = .ok (.if_icmp .le 16, 3) := by decide +kernel
theorem dX2_readAll_28 : decode cX2_readAll 28 = .ok (.aload_n 0, 1) := by decide +kernel
theorem dX2_readAll_29 : decode cX2_readAll 29 = .ok (.aload_n 0, 1) := by decide +kernel
theorem dX2_readAll_30 : decode cX2_readAll 30 = .ok (.getfield 18, 3) := by decide +kernel
theorem dX2_readAll_33 : decode cX2_readAll 33 = .ok (.iload_n 1, 1) := by decide +kernel
theorem dX2_readAll_34 : decode cX2_readAll 34 = .ok (.caload, 1) := by decide +kernel
theorem dX2_readAll_35 : decode cX2_readAll 35 = .ok (.invokevirtual 37, 3) := by decide +kernel
theorem dX2_readAll_38 : decode cX2_readAll 38 = .ok (.ifCond .ne 5, 3) := by decide +kernel
theorem dX2_readAll_41 : decode cX2_readAll 41 = .ok (.iload_n 1, 1) := by decide +kernel
theorem dX2_readAll_42 : decode cX2_readAll 42 = .ok (.ireturn, 1) := by decide +kernel
theorem dX2_readAll_43 : decode cX2_readAll 43 = .ok (.iload_n 2, 1) := by decide +kernel
theorem dX2_readAll_44 : decode cX2_readAll 44 = .ok (.istore_n 1, 1) := by decide +kernel
theorem dX2_readAll_45 : decode cX2_readAll 45 = .ok (.goto (-36), 3) := by decide +kernel
theorem dX2_readAll_48 : decode cX2_readAll 48 = .ok (.bipush (-4), 2) := by decide +kernel
theorem dX2_readAll_50 : decode cX2_readAll 50 = .ok (.ireturn, 1) := by decide +kernel
theorem dX2_endOfItem_0 : decode cX2_endOfItem 0 = .ok (.aload_n 0, 1) := by decide +kernel
theorem dX2_endOfItem_1 : decode cX2_endOfItem 1 = .ok (.getfield 18, 3) := by decide +kernel
theorem dX2_endOfItem_4 : decode cX2_endOfItem 4 = .ok (.iload_n 1, 1) := by decide +kernel
theorem dX2_endOfItem_5 : decode cX2_endOfItem 5 = .ok (.caload, 1) := by decide +kernel
theorem dX2_endOfItem_6 : decode cX2_endOfItem 6 = .ok (.invokestatic 41, 3) := by decide +kernel
theorem dX2_endOfItem_9 : decode cX2_endOfItem 9 = .ok (.istore_n 2, 1) := by decide +kernel
theorem dX2_endOfItem_10 : decode cX2_endOfItem 10 = .ok (.iload_n 1, 1) := by decide +kernel
theorem dX2_endOfItem_11 : decode cX2_endOfItem 11 = .ok (.iconst 1, 1) := by decide +kernel
theorem dX2_endOfItem_12 : decode cX2_endOfItem 12 = .ok (.iadd, 1) := by decide +kernel
theorem dX2_endOfItem_13 : decode cX2_endOfItem 13 = .ok (.istore_n 3, 1) := by decide +kernel
theorem dX2_endOfItem_14 : decode cX2_endOfItem 14 = .ok (.iconst 0, 1) := by decide +kernel
theorem dX2_endOfItem_15 : decode cX2_endOfItem 15 = .ok (.istore 4, 2) := by decide +kernel
theorem dX2_endOfItem_17 : decode cX2_endOfItem 17 = .ok (.iload 4, 2) := by decide +kernel
theorem dX2_endOfItem_19 : decode cX2_endOfItem 19 = .ok (.iload_n 2, 1) := by decide +kernel
theorem dX2_endOfItem_20 : decode cX2_endOfItem 20 = .ok (.if_icmp .ge 74, 3) := by decide +kernel
theorem dX2_endOfItem_23 : decode cX2_endOfItem 23 = .ok (.aload_n 0, 1) := by decide +kernel
theorem dX2_endOfItem_24 : decode cX2_endOfItem 24 = .ok (.iload_n 3, 1) := by decide +kernel
theorem dX2_endOfItem_25 : decode cX2_endOfItem 25 = .ok (.invokevirtual 44, 3) := by decide +kernel
theorem dX2_endOfItem_28 : decode cX2_endOfItem 28 = .ok (.istore 5, 2) := by decide +kernel
theorem dX2_endOfItem_30 : decode cX2_endOfItem 30 = .ok (.iload 4, 2) := by decide +kernel
theorem dX2_endOfItem_32 : decode cX2_endOfItem 32 = .ok (.iconst 1, 1) := by decide +kernel
theorem dX2_endOfItem_33 : decode cX2_endOfItem 33 = .ok (.iadd, 1) := by decide +kernel
theorem dX2_endOfItem_34 : decode cX2_endOfItem 34 = .ok (.iload_n 2, 1) := by decide +kernel
theorem dX2_endOfItem_35 : decode cX2_endOfItem 35 = .ok (.if_icmp .ge 8, 3) := by decide +kernel
theorem dX2_endOfItem_38 : decode cX2_endOfItem 38 = .ok (.bipush 44, 2) := by decide +kernel
theorem dX2_endOfItem_40 : decode cX2_endOfItem 40 = .ok (.goto 5, 3) := by decide +kernel
theorem dX2_endOfItem_43 : decode cX2_endOfItem 43 = .ok (.bipush 59, 2) := by decide +kernel
theorem dX2_endOfItem_45 : decode cX2_endOfItem 45 = .ok (.istore 6, 2) := by decide +kernel
theorem dX2_endOfItem_47 : decode cX2_endOfItem 47 = .ok (.iload 5, 2) := by decide +kernel
theorem dX2_endOfItem_49 : decode cX2_endOfItem 49 = .ok (.ifCond .eq 16, 3) := by decide +kernel
theorem dX2_endOfItem_52 : decode cX2_endOfItem 52 = .ok (.aload_n 0, 1) := by decide +kernel
theorem dX2_endOfItem_53 : decode cX2_endOfItem 53 = .ok (.iload_n 3, 1) := by decide +kernel
theorem dX2_endOfItem_54 : decode cX2_endOfItem 54 = .ok (.iload 5, 2) := by decide +kernel
theorem dX2_endOfItem_56 : decode cX2_endOfItem 56 = .ok (.iadd, 1) := by decide +kernel
theorem dX2_endOfItem_57 : decode cX2_endOfItem 57 = .ok (.invokevirtual 47, 3) := by decide +kernel
theorem dX2_endOfItem_60 : decode cX2_endOfItem 60 = .ok (.iload 6, 2) := by decide +kernel
theorem dX2_endOfItem_62 : decode cX2_endOfItem 62 = .ok (.if_icmp .eq 5, 3) := by decide +kernel
theorem dX2_endOfItem_65 : decode cX2_endOfItem 65 = .ok (.iload_n 1, 1) := by decide +kernel
theorem dX2_endOfItem_66 : decode cX2_endOfItem 66 = .ok (.ireturn, 1) := by decide +kernel
theorem dX2_endOfItem_67 : decode cX2_endOfItem 67 = .ok (.aload_n 0, 1) := by decide +kernel
theorem dX2_endOfItem_68 : decode cX2_endOfItem 68 = .ok (.getfield 22, 3) := by decide +kernel
theorem dX2_endOfItem_71 : decode cX2_endOfItem 71 = .ok (.iload 4, 2) := by decide +kernel
theorem dX2_endOfItem_73 : decode cX2_endOfItem 73 = .ok (.aload_n 0, 1) := by decide +kernel
theorem dX2_endOfItem_74 : decode cX2_endOfItem 74 = .ok (.iload_n 3, 1) := by decide +kernel
theorem dX2_endOfItem_75 : decode cX2_endOfItem 75 = .ok (.iload 5, 2) := by decide +kernel
theorem dX2_endOfItem_77 : decode cX2_endOfItem 77 = .ok (.invokevirtual 51, 3) := by decide +kernel
theorem dX2_endOfItem_80 : decode cX2_endOfItem 80 = .ok (.iastore, 1) := by decide +kernel
theorem dX2_endOfItem_81 : decode cX2_endOfItem 81 = .ok (.iload_n 3, 1) := by decide +kernel
theorem dX2_endOfItem_82 : decode cX2_endOfItem 82 = .ok (.iload 5, 2) := by decide +kernel
theorem dX2_endOfItem_84 : decode cX2_endOfItem 84 = .ok (.iconst 1, 1) := by decide +kernel
theorem dX2_endOfItem_85 : decode cX2_endOfItem 85 = .ok (.iadd, 1) := by decide +kernel
theorem dX2_endOfItem_86 : decode cX2_endOfItem 86 = .ok (.iadd, 1) := by decide +kernel
theorem dX2_endOfItem_87 : decode cX2_endOfItem 87 = .ok (.istore_n 3, 1) := by decide +kernel
theorem dX2_endOfItem_88 : decode cX2_endOfItem 88 = .ok (.iinc 4 1, 3) := by decide +kernel
theorem dX2_endOfItem_91 : decode cX2_endOfItem 91 = .ok (.goto (-74), 3) := by decide +kernel
theorem dX2_endOfItem_94 : decode cX2_endOfItem 94 = .ok (.iload_n 2, 1) := by decide +kernel
theorem dX2_endOfItem_95 : decode cX2_endOfItem 95 = .ok (.ifCond .ne 7, 3) := by decide +kernel
theorem dX2_endOfItem_98 : decode cX2_endOfItem 98 = .ok (.iload_n 1, 1) := by decide +kernel
theorem dX2_endOfItem_99 : decode cX2_endOfItem 99 = .ok (.goto 4, 3) := by decide +kernel
theorem dX2_endOfItem_102 : decode cX2_endOfItem 102 = .ok (.iload_n 3, 1) := by decide +kernel
theorem dX2_endOfItem_103 : decode cX2_endOfItem 103 = .ok (.ireturn, 1) := by decide +kernel
theorem dX2_takeItem_0 : decode cX2_takeItem 0 = .ok (.iload_n 1, 1) := by decide +kernel
theorem dX2_takeItem_1 : decode cX2_takeItem 1 = .ok (.lookupswitch 117 #[(98, 69), (103, 103), (105, 43), (115, 89)], 43) := by decide +kernel
theorem dX2_takeItem_44 : decode cX2_takeItem 44 = .ok (.aload_n 0, 1) := by decide +kernel
theorem dX2_takeItem_45 : decode cX2_takeItem 45 = .ok (.getfield 12, 3) := by decide +kernel
theorem dX2_takeItem_48 : decode cX2_takeItem 48 = .ok (.aload_n 0, 1) := by decide +kernel
theorem dX2_takeItem_49 : decode cX2_takeItem 49 = .ok (.getfield 22, 3) := by decide +kernel
theorem dX2_takeItem_52 : decode cX2_takeItem 52 = .ok (.iconst 0, 1) := by decide +kernel
theorem dX2_takeItem_53 : decode cX2_takeItem 53 = .ok (.iaload, 1) := by decide +kernel
theorem dX2_takeItem_54 : decode cX2_takeItem 54 = .ok (.aload_n 0, 1) := by decide +kernel
theorem dX2_takeItem_55 : decode cX2_takeItem 55 = .ok (.getfield 22, 3) := by decide +kernel
theorem dX2_takeItem_58 : decode cX2_takeItem 58 = .ok (.iconst 1, 1) := by decide +kernel
theorem dX2_takeItem_59 : decode cX2_takeItem 59 = .ok (.iaload, 1) := by decide +kernel
theorem dX2_takeItem_60 : decode cX2_takeItem 60 = .ok (.aload_n 0, 1) := by decide +kernel
theorem dX2_takeItem_61 : decode cX2_takeItem 61 = .ok (.getfield 22, 3) := by decide +kernel
theorem dX2_takeItem_64 : decode cX2_takeItem 64 = .ok (.iconst 2, 1) := by decide +kernel
theorem dX2_takeItem_65 : decode cX2_takeItem 65 = .ok (.iaload, 1) := by decide +kernel
theorem dX2_takeItem_66 : decode cX2_takeItem 66 = .ok (.invokevirtual 55, 3) := by decide +kernel
theorem dX2_takeItem_69 : decode cX2_takeItem 69 = .ok (.ireturn, 1) := by decide +kernel
theorem dX2_takeItem_70 : decode cX2_takeItem 70 = .ok (.aload_n 0, 1) := by decide +kernel
theorem dX2_takeItem_71 : decode cX2_takeItem 71 = .ok (.getfield 12, 3) := by decide +kernel
theorem dX2_takeItem_74 : decode cX2_takeItem 74 = .ok (.aload_n 0, 1) := by decide +kernel
theorem dX2_takeItem_75 : decode cX2_takeItem 75 = .ok (.getfield 22, 3) := by decide +kernel
theorem dX2_takeItem_78 : decode cX2_takeItem 78 = .ok (.iconst 0, 1) := by decide +kernel
theorem dX2_takeItem_79 : decode cX2_takeItem 79 = .ok (.iaload, 1) := by decide +kernel
theorem dX2_takeItem_80 : decode cX2_takeItem 80 = .ok (.aload_n 0, 1) := by decide +kernel
theorem dX2_takeItem_81 : decode cX2_takeItem 81 = .ok (.getfield 22, 3) := by decide +kernel
theorem dX2_takeItem_84 : decode cX2_takeItem 84 = .ok (.iconst 1, 1) := by decide +kernel
theorem dX2_takeItem_85 : decode cX2_takeItem 85 = .ok (.iaload, 1) := by decide +kernel
theorem dX2_takeItem_86 : decode cX2_takeItem 86 = .ok (.invokevirtual 59, 3) := by decide +kernel
theorem dX2_takeItem_89 : decode cX2_takeItem 89 = .ok (.ireturn, 1) := by decide +kernel
theorem dX2_takeItem_90 : decode cX2_takeItem 90 = .ok (.aload_n 0, 1) := by decide +kernel
theorem dX2_takeItem_91 : decode cX2_takeItem 91 = .ok (.getfield 12, 3) := by decide +kernel
theorem dX2_takeItem_94 : decode cX2_takeItem 94 = .ok (.aload_n 0, 1) := by decide +kernel
theorem dX2_takeItem_95 : decode cX2_takeItem 95 = .ok (.getfield 22, 3) := by decide +kernel
theorem dX2_takeItem_98 : decode cX2_takeItem 98 = .ok (.iconst 0, 1) := by decide +kernel
theorem dX2_takeItem_99 : decode cX2_takeItem 99 = .ok (.iaload, 1) := by decide +kernel
theorem dX2_takeItem_100 : decode cX2_takeItem 100 = .ok (.invokevirtual 63, 3) := by decide +kernel
theorem dX2_takeItem_103 : decode cX2_takeItem 103 = .ok (.ireturn, 1) := by decide +kernel
theorem dX2_takeItem_104 : decode cX2_takeItem 104 = .ok (.aload_n 0, 1) := by decide +kernel
theorem dX2_takeItem_105 : decode cX2_takeItem 105 = .ok (.getfield 12, 3) := by decide +kernel
theorem dX2_takeItem_108 : decode cX2_takeItem 108 = .ok (.aload_n 0, 1) := by decide +kernel
theorem dX2_takeItem_109 : decode cX2_takeItem 109 = .ok (.getfield 22, 3) := by decide +kernel
theorem dX2_takeItem_112 : decode cX2_takeItem 112 = .ok (.iconst 0, 1) := by decide +kernel
theorem dX2_takeItem_113 : decode cX2_takeItem 113 = .ok (.iaload, 1) := by decide +kernel
theorem dX2_takeItem_114 : decode cX2_takeItem 114 = .ok (.invokevirtual 66, 3) := by decide +kernel
theorem dX2_takeItem_117 : decode cX2_takeItem 117 = .ok (.ireturn, 1) := by decide +kernel
theorem dX2_takeItem_118 : decode cX2_takeItem 118 = .ok (.iconst 0, 1) := by decide +kernel
theorem dX2_takeItem_119 : decode cX2_takeItem 119 = .ok (.ireturn, 1) := by decide +kernel
theorem dX2_numbersBehind_0 : decode cX2_numbersBehind 0 = .ok (.iload_n 0, 1) := by decide +kernel
theorem dX2_numbersBehind_1 : decode cX2_numbersBehind 1 = .ok (.lookupswitch 51 #[(98, 45), (103, 49), (105, 43), (115, 47)], 43) := by decide +kernel
theorem dX2_numbersBehind_44 : decode cX2_numbersBehind 44 = .ok (.iconst 3, 1) := by decide +kernel
theorem dX2_numbersBehind_45 : decode cX2_numbersBehind 45 = .ok (.ireturn, 1) := by decide +kernel
theorem dX2_numbersBehind_46 : decode cX2_numbersBehind 46 = .ok (.iconst 2, 1) := by decide +kernel
theorem dX2_numbersBehind_47 : decode cX2_numbersBehind 47 = .ok (.ireturn, 1) := by decide +kernel
theorem dX2_numbersBehind_48 : decode cX2_numbersBehind 48 = .ok (.iconst 1, 1) := by decide +kernel
theorem dX2_numbersBehind_49 : decode cX2_numbersBehind 49 = .ok (.ireturn, 1) := by decide +kernel
theorem dX2_numbersBehind_50 : decode cX2_numbersBehind 50 = .ok (.iconst 1, 1) := by decide +kernel
theorem dX2_numbersBehind_51 : decode cX2_numbersBehind 51 = .ok (.ireturn, 1) := by decide +kernel
theorem dX2_numbersBehind_52 : decode cX2_numbersBehind 52 = .ok (.iconst 0, 1) := by decide +kernel
theorem dX2_numbersBehind_53 : decode cX2_numbersBehind 53 = .ok (.ireturn, 1) := by decide +kernel
theorem dX2_figuresAt_0 : decode cX2_figuresAt 0 = .ok (.aload_n 0, 1) := by decide +kernel
theorem dX2_figuresAt_1 : decode cX2_figuresAt 1 = .ok (.iload_n 1, 1) := by decide +kernel
theorem dX2_figuresAt_2 : decode cX2_figuresAt 2 = .ok (.invokevirtual 47, 3) := by decide +kernel
theorem dX2_figuresAt_5 : decode cX2_figuresAt 5 = .ok (.invokestatic 69, 3) := by decide +kernel
theorem dX2_figuresAt_8 : decode cX2_figuresAt 8 = .ok (.ifCond .ne 5, 3) := by decide +kernel
theorem dX2_figuresAt_11 : decode cX2_figuresAt 11 = .ok (.iconst 0, 1) := by decide +kernel
theorem dX2_figuresAt_12 : decode cX2_figuresAt 12 = .ok (.ireturn, 1) := by decide +kernel
theorem dX2_figuresAt_13 : decode cX2_figuresAt 13 = .ok (.aload_n 0, 1) := by decide +kernel
theorem dX2_figuresAt_14 : decode cX2_figuresAt 14 = .ok (.iload_n 1, 1) := by decide +kernel
theorem dX2_figuresAt_15 : decode cX2_figuresAt 15 = .ok (.iconst 1, 1) := by decide +kernel
theorem dX2_figuresAt_16 : decode cX2_figuresAt 16 = .ok (.iadd, 1) := by decide +kernel
theorem dX2_figuresAt_17 : decode cX2_figuresAt 17 = .ok (.invokevirtual 47, 3) := by decide +kernel
theorem dX2_figuresAt_20 : decode cX2_figuresAt 20 = .ok (.invokestatic 69, 3) := by decide +kernel
theorem dX2_figuresAt_23 : decode cX2_figuresAt 23 = .ok (.ifCond .eq 7, 3) := by decide +kernel
theorem dX2_figuresAt_26 : decode cX2_figuresAt 26 = .ok (.iconst 2, 1) := by decide +kernel
theorem dX2_figuresAt_27 : decode cX2_figuresAt 27 = .ok (.goto 4, 3) := by decide +kernel
theorem dX2_figuresAt_30 : decode cX2_figuresAt 30 = .ok (.iconst 1, 1) := by decide +kernel
theorem dX2_figuresAt_31 : decode cX2_figuresAt 31 = .ok (.ireturn, 1) := by decide +kernel
theorem dX2_numberAt_0 : decode cX2_numberAt 0 = .ok (.aload_n 0, 1) := by decide +kernel
theorem dX2_numberAt_1 : decode cX2_numberAt 1 = .ok (.iload_n 1, 1) := by decide +kernel
theorem dX2_numberAt_2 : decode cX2_numberAt 2 = .ok (.invokevirtual 47, 3) := by decide +kernel
theorem dX2_numberAt_5 : decode cX2_numberAt 5 = .ok (.bipush 48, 2) := by decide +kernel
theorem dX2_numberAt_7 : decode cX2_numberAt 7 = .ok (.isub, 1) := by decide +kernel
theorem dX2_numberAt_8 : decode cX2_numberAt 8 = .ok (.istore_n 3, 1) := by decide +kernel
theorem dX2_numberAt_9 : decode cX2_numberAt 9 = .ok (.iload_n 2, 1) := by decide +kernel
theorem dX2_numberAt_10 : decode cX2_numberAt 10 = .ok (.iconst 1, 1) := by decide +kernel
theorem dX2_numberAt_11 : decode cX2_numberAt 11 = .ok (.if_icmp .ne 7, 3) := by decide +kernel
theorem dX2_numberAt_14 : decode cX2_numberAt 14 = .ok (.iload_n 3, 1) := by decide +kernel
theorem dX2_numberAt_15 : decode cX2_numberAt 15 = .ok (.goto 18, 3) := by decide +kernel
theorem dX2_numberAt_18 : decode cX2_numberAt 18 = .ok (.bipush 10, 2) := by decide +kernel
theorem dX2_numberAt_20 : decode cX2_numberAt 20 = .ok (.iload_n 3, 1) := by decide +kernel
theorem dX2_numberAt_21 : decode cX2_numberAt 21 = .ok (.imul, 1) := by decide +kernel
theorem dX2_numberAt_22 : decode cX2_numberAt 22 = .ok (.aload_n 0, 1) := by decide +kernel
theorem dX2_numberAt_23 : decode cX2_numberAt 23 = .ok (.iload_n 1, 1) := by decide +kernel
theorem dX2_numberAt_24 : decode cX2_numberAt 24 = .ok (.iconst 1, 1) := by decide +kernel
theorem dX2_numberAt_25 : decode cX2_numberAt 25 = .ok (.iadd, 1) := by decide +kernel
theorem dX2_numberAt_26 : decode cX2_numberAt 26 = .ok (.invokevirtual 47, 3) := by decide +kernel
theorem dX2_numberAt_29 : decode cX2_numberAt 29 = .ok (.iadd, 1) := by decide +kernel
theorem dX2_numberAt_30 : decode cX2_numberAt 30 = .ok (.bipush 48, 2) := by decide +kernel
theorem dX2_numberAt_32 : decode cX2_numberAt 32 = .ok (.isub, 1) := by decide +kernel
theorem dX2_numberAt_33 : decode cX2_numberAt 33 = .ok (.ireturn, 1) := by decide +kernel
theorem dX2_isFigure_0 : decode cX2_isFigure 0 = .ok (.iload_n 0, 1) := by decide +kernel
theorem dX2_isFigure_1 : decode cX2_isFigure 1 = .ok (.bipush 48, 2) := by decide +kernel
theorem dX2_isFigure_3 : decode cX2_isFigure 3 = .ok (.if_icmp .lt 13, 3) := by decide +kernel
theorem dX2_isFigure_6 : decode cX2_isFigure 6 = .ok (.iload_n 0, 1) := by decide +kernel
theorem dX2_isFigure_7 : decode cX2_isFigure 7 = .ok (.bipush 57, 2) := by decide +kernel
theorem dX2_isFigure_9 : decode cX2_isFigure 9 = .ok (.if_icmp .gt 7, 3) := by decide +kernel
theorem dX2_isFigure_12 : decode cX2_isFigure 12 = .ok (.iconst 1, 1) := by decide +kernel
theorem dX2_isFigure_13 : decode cX2_isFigure 13 = .ok (.goto 4, 3) := by decide +kernel
theorem dX2_isFigure_16 : decode cX2_isFigure 16 = .ok (.iconst 0, 1) := by decide +kernel
theorem dX2_isFigure_17 : decode cX2_isFigure 17 = .ok (.ireturn, 1) := by decide +kernel
theorem dX2_letterAt_0 : decode cX2_letterAt 0 = .ok (.iload_n 1, 1) := by decide +kernel
theorem dX2_letterAt_1 : decode cX2_letterAt 1 = .ok (.ifCond .lt 20, 3) := by decide +kernel
theorem dX2_letterAt_4 : decode cX2_letterAt 4 = .ok (.iload_n 1, 1) := by decide +kernel
theorem dX2_letterAt_5 : decode cX2_letterAt 5 = .ok (.aload_n 0, 1) := by decide +kernel
theorem dX2_letterAt_6 : decode cX2_letterAt 6 = .ok (.getfield 26, 3) := by decide +kernel
theorem dX2_letterAt_9 : decode cX2_letterAt 9 = .ok (.if_icmp .ge 12, 3) := by decide +kernel
theorem dX2_letterAt_12 : decode cX2_letterAt 12 = .ok (.aload_n 0, 1) := by decide +kernel
theorem dX2_letterAt_13 : decode cX2_letterAt 13 = .ok (.getfield 18, 3) := by decide +kernel
theorem dX2_letterAt_16 : decode cX2_letterAt 16 = .ok (.iload_n 1, 1) := by decide +kernel
theorem dX2_letterAt_17 : decode cX2_letterAt 17 = .ok (.caload, 1) := by decide +kernel
theorem dX2_letterAt_18 : decode cX2_letterAt 18 = .ok (.goto 4, 3) := by decide +kernel
theorem dX2_letterAt_21 : decode cX2_letterAt 21 = .ok (.iconst 0, 1) := by decide +kernel
theorem dX2_letterAt_22 : decode cX2_letterAt 22 = .ok (.ireturn, 1) := by decide +kernel
theorem dX3_init_0 : decode cX3_init 0 = .ok (.aload_n 0, 1) := by decide +kernel
theorem dX3_init_1 : decode cX3_init 1 = .ok (.invokespecial 3, 3) := by decide +kernel
theorem dX3_init_4 : decode cX3_init 4 = .ok (.aload_n 0, 1) := by decide +kernel
theorem dX3_init_5 : decode cX3_init 5 = .ok (.bipush 7, 2) := by decide +kernel
theorem dX3_init_7 : decode cX3_init 7 = .ok (.newarray .int, 2) := by decide +kernel
theorem dX3_init_9 : decode cX3_init 9 = .ok (.putfield 9, 3) := by decide +kernel
theorem dX3_init_12 : decode cX3_init 12 = .ok (.aload_n 0, 1) := by decide +kernel
theorem dX3_init_13 : decode cX3_init 13 = .ok (.bipush 57, 2) := by decide +kernel
theorem dX3_init_15 : decode cX3_init 15 = .ok (.newarray .int, 2) := by decide +kernel
theorem dX3_init_17 : decode cX3_init 17 = .ok (.putfield 15, 3) := by decide +kernel
theorem dX3_init_20 : decode cX3_init 20 = .ok (.aload_n 0, 1) := by decide +kernel
theorem dX3_init_21 : decode cX3_init 21 = .ok (.bipush 7, 2) := by decide +kernel
theorem dX3_init_23 : decode cX3_init 23 = .ok (.newarray .int, 2) := by decide +kernel
theorem dX3_init_25 : decode cX3_init 25 = .ok (.putfield 18, 3) := by decide +kernel
theorem dX3_init_28 : decode cX3_init 28 = .ok (.aload_n 0, 1) := by decide +kernel
theorem dX3_init_29 : decode cX3_init 29 = .ok (.bipush 7, 2) := by decide +kernel
theorem dX3_init_31 : decode cX3_init 31 = .ok (.newarray .int, 2) := by decide +kernel
theorem dX3_init_33 : decode cX3_init 33 = .ok (.putfield 21, 3) := by decide +kernel
theorem dX3_init_36 : decode cX3_init 36 = .ok (.aload_n 0, 1) := by decide +kernel
theorem dX3_init_37 : decode cX3_init 37 = .ok (.new 24, 3) := by decide +kernel
theorem dX3_init_40 : decode cX3_init 40 = .ok (.dup, 1) := by decide +kernel
theorem dX3_init_41 : decode cX3_init 41 = .ok (.invokespecial 26, 3) := by decide +kernel
theorem dX3_init_44 : decode cX3_init 44 = .ok (.putfield 27, 3) := by decide +kernel
theorem dX3_init_47 : decode cX3_init 47 = .ok (.return_, 1) := by decide +kernel
theorem dX3_lookAtAll_0 : decode cX3_lookAtAll 0 = .ok (.aload_n 0, 1) := by decide +kernel
theorem dX3_lookAtAll_1 : decode cX3_lookAtAll 1 = .ok (.aload_n 1, 1) := by decide +kernel
theorem dX3_lookAtAll_2 : decode cX3_lookAtAll 2 = .ok (.getfield 31, 3) := by decide +kernel
theorem dX3_lookAtAll_5 : decode cX3_lookAtAll 5 = .ok (.aload_n 2, 1) := by decide +kernel
theorem dX3_lookAtAll_6 : decode cX3_lookAtAll 6 = .ok (.invokevirtual 37, 3) := by decide +kernel
theorem dX3_lookAtAll_9 : decode cX3_lookAtAll 9 = .ok (.iconst 0, 1) := by decide +kernel
theorem dX3_lookAtAll_10 : decode cX3_lookAtAll 10 = .ok (.istore 5, 2) := by decide +kernel
theorem dX3_lookAtAll_12 : decode cX3_lookAtAll 12 = .ok (.iload 5, 2) := by decide +kernel
theorem dX3_lookAtAll_14 : decode cX3_lookAtAll 14 = .ok (.aload_n 0, 1) := by decide +kernel
theorem dX3_lookAtAll_15 : decode cX3_lookAtAll 15 = .ok (.getfield 41, 3) := by decide +kernel
theorem dX3_lookAtAll_18 : decode cX3_lookAtAll 18 = .ok (.if_icmp .ge 183, 3) := by decide +kernel
theorem dX3_lookAtAll_21 : decode cX3_lookAtAll 21 = .ok (.aload_n 0, 1) := by decide +kernel
theorem dX3_lookAtAll_22 : decode cX3_lookAtAll 22 = .ok (.getfield 27, 3) := by decide +kernel
theorem dX3_lookAtAll_25 : decode cX3_lookAtAll 25 = .ok (.aload_n 1, 1) := by decide +kernel
theorem dX3_lookAtAll_26 : decode cX3_lookAtAll 26 = .ok (.aload_n 0, 1) := by decide +kernel
theorem dX3_lookAtAll_27 : decode cX3_lookAtAll 27 = .ok (.getfield 18, 3) := by decide +kernel
theorem dX3_lookAtAll_30 : decode cX3_lookAtAll 30 = .ok (.aload_n 1, 1) := by decide +kernel
theorem dX3_lookAtAll_31 : decode cX3_lookAtAll 31 = .ok (.getfield 44, 3) := by decide +kernel
theorem dX3_lookAtAll_34 : decode cX3_lookAtAll 34 = .ok (.iload_n 3, 1) := by decide +kernel
theorem dX3_lookAtAll_35 : decode cX3_lookAtAll 35 = .ok (.bipush 127, 2) := by decide +kernel
theorem dX3_lookAtAll_37 : decode cX3_lookAtAll 37 = .ok (.invokevirtual 47, 3) := by decide +kernel
theorem dX3_lookAtAll_40 : decode cX3_lookAtAll 40 = .ok (.aload_n 0, 1) := by decide +kernel
theorem dX3_lookAtAll_41 : decode cX3_lookAtAll 41 = .ok (.getfield 15, 3) := by decide +kernel
theorem dX3_lookAtAll_44 : decode cX3_lookAtAll 44 = .ok (.aload_n 0, 1) := by decide +kernel
theorem dX3_lookAtAll_45 : decode cX3_lookAtAll 45 = .ok (.getfield 27, 3) := by decide +kernel
theorem dX3_lookAtAll_48 : decode cX3_lookAtAll 48 = .ok (.getfield 51, 3) := by decide +kernel
theorem dX3_lookAtAll_51 : decode cX3_lookAtAll 51 = .ok (.dup2, 1) := by decide +kernel
theorem dX3_lookAtAll_52 : decode cX3_lookAtAll 52 = .ok (.iaload, 1) := by decide +kernel
theorem dX3_lookAtAll_53 : decode cX3_lookAtAll 53 = .ok (.iconst 1, 1) := by decide +kernel
theorem dX3_lookAtAll_54 : decode cX3_lookAtAll 54 = .ok (.iadd, 1) := by decide +kernel
theorem dX3_lookAtAll_55 : decode cX3_lookAtAll 55 = .ok (.iastore, 1) := by decide +kernel
theorem dX3_lookAtAll_56 : decode cX3_lookAtAll 56 = .ok (.aload_n 0, 1) := by decide +kernel
theorem dX3_lookAtAll_57 : decode cX3_lookAtAll 57 = .ok (.getfield 27, 3) := by decide +kernel
theorem dX3_lookAtAll_60 : decode cX3_lookAtAll 60 = .ok (.getfield 51, 3) := by decide +kernel
theorem dX3_lookAtAll_63 : decode cX3_lookAtAll 63 = .ok (.aload_n 0, 1) := by decide +kernel
theorem dX3_lookAtAll_64 : decode cX3_lookAtAll 64 = .ok (.getfield 54, 3) := by decide +kernel
theorem dX3_lookAtAll_67 : decode cX3_lookAtAll 67 = .ok (.if_icmp .le 32, 3) := by decide +kernel
theorem dX3_lookAtAll_70 : decode cX3_lookAtAll 70 = .ok (.aload_n 0, 1) := by decide +kernel
theorem dX3_lookAtAll_71 : decode cX3_lookAtAll 71 = .ok (.aload_n 0, 1) := by decide +kernel
theorem dX3_lookAtAll_72 : decode cX3_lookAtAll 72 = .ok (.getfield 27, 3) := by decide +kernel
theorem dX3_lookAtAll_75 : decode cX3_lookAtAll 75 = .ok (.getfield 51, 3) := by decide +kernel
theorem dX3_lookAtAll_78 : decode cX3_lookAtAll 78 = .ok (.putfield 54, 3) := by decide +kernel
theorem dX3_lookAtAll_81 : decode cX3_lookAtAll 81 = .ok (.aload_n 0, 1) := by decide +kernel
theorem dX3_lookAtAll_82 : decode cX3_lookAtAll 82 = .ok (.getfield 18, 3) := by decide +kernel
theorem dX3_lookAtAll_85 : decode cX3_lookAtAll 85 = .ok (.iconst 0, 1) := by decide +kernel
theorem dX3_lookAtAll_86 : decode cX3_lookAtAll 86 = .ok (.aload_n 0, 1) := by decide +kernel
theorem dX3_lookAtAll_87 : decode cX3_lookAtAll 87 = .ok (.getfield 9, 3) := by decide +kernel
theorem dX3_lookAtAll_90 : decode cX3_lookAtAll 90 = .ok (.iconst 0, 1) := by decide +kernel
theorem dX3_lookAtAll_91 : decode cX3_lookAtAll 91 = .ok (.aload_n 0, 1) := by decide +kernel
theorem dX3_lookAtAll_92 : decode cX3_lookAtAll 92 = .ok (.getfield 18, 3) := by decide +kernel
theorem dX3_lookAtAll_95 : decode cX3_lookAtAll 95 = .ok (.arraylength, 1) := by decide +kernel
theorem dX3_lookAtAll_96 : decode cX3_lookAtAll 96 = .ok (.invokestatic 57, 3) := by decide +kernel
theorem dX3_lookAtAll_99 : decode cX3_lookAtAll 99 = .ok (.aload_n 0, 1) := by decide +kernel
theorem dX3_lookAtAll_100 : decode cX3_lookAtAll 100 = .ok (.getfield 27, 3) := by decide +kernel
theorem dX3_lookAtAll_103 : decode cX3_lookAtAll 103 = .ok (.getfield 63, 3) := by decide +kernel
theorem dX3_lookAtAll_106 : decode cX3_lookAtAll 106 = .ok (.aload_n 1, 1) := by decide +kernel
theorem dX3_lookAtAll_107 : decode cX3_lookAtAll 107 = .ok (.getfield 66, 3) := by decide +kernel
theorem dX3_lookAtAll_110 : decode cX3_lookAtAll 110 = .ok (.if_icmp .ne 50, 3) := by decide +kernel
theorem dX3_lookAtAll_113 : decode cX3_lookAtAll 113 = .ok (.aload_n 0, 1) := by decide +kernel
theorem dX3_lookAtAll_114 : decode cX3_lookAtAll 114 = .ok (.dup, 1) := by decide +kernel
theorem dX3_lookAtAll_115 : decode cX3_lookAtAll 115 = .ok (.getfield 69, 3) := by decide +kernel
theorem dX3_lookAtAll_118 : decode cX3_lookAtAll 118 = .ok (.iconst 1, 1) := by decide +kernel
theorem dX3_lookAtAll_119 : decode cX3_lookAtAll 119 = .ok (.iadd, 1) := by decide +kernel
theorem dX3_lookAtAll_120 : decode cX3_lookAtAll 120 = .ok (.putfield 69, 3) := by decide +kernel
theorem dX3_lookAtAll_123 : decode cX3_lookAtAll 123 = .ok (.aload_n 0, 1) := by decide +kernel
theorem dX3_lookAtAll_124 : decode cX3_lookAtAll 124 = .ok (.aload_n 1, 1) := by decide +kernel
theorem dX3_lookAtAll_125 : decode cX3_lookAtAll 125 = .ok (.getfield 31, 3) := by decide +kernel
theorem dX3_lookAtAll_128 : decode cX3_lookAtAll 128 = .ok (.invokevirtual 72, 3) := by decide +kernel
theorem dX3_lookAtAll_131 : decode cX3_lookAtAll 131 = .ok (.istore 6, 2) := by decide +kernel
theorem dX3_lookAtAll_133 : decode cX3_lookAtAll 133 = .ok (.aload_n 0, 1) := by decide +kernel
theorem dX3_lookAtAll_134 : decode cX3_lookAtAll 134 = .ok (.aload_n 0, 1) := by decide +kernel
theorem dX3_lookAtAll_135 : decode cX3_lookAtAll 135 = .ok (.getfield 76, 3) := by decide +kernel
theorem dX3_lookAtAll_138 : decode cX3_lookAtAll 138 = .ok (.bipush (-4), 2) := by decide +kernel
theorem dX3_lookAtAll_140 : decode cX3_lookAtAll 140 = .ok (.if_icmp .ne 8, 3) := by decide +kernel
theorem dX3_lookAtAll_143 : decode cX3_lookAtAll 143 = .ok (.iload 6, 2) := by decide +kernel
theorem dX3_lookAtAll_145 : decode cX3_lookAtAll 145 = .ok (.goto 12, 3) := by decide +kernel
theorem dX3_lookAtAll_148 : decode cX3_lookAtAll 148 = .ok (.aload_n 0, 1) := by decide +kernel
theorem dX3_lookAtAll_149 : decode cX3_lookAtAll 149 = .ok (.getfield 76, 3) := by decide +kernel
theorem dX3_lookAtAll_152 : decode cX3_lookAtAll 152 = .ok (.iload 6, 2) := by decide +kernel
theorem dX3_lookAtAll_154 : decode cX3_lookAtAll 154 = .ok (.invokestatic 79, 3) := by decide +kernel
theorem dX3_lookAtAll_157 : decode cX3_lookAtAll 157 = .ok (.putfield 76, 3) := by decide +kernel
theorem dX3_lookAtAll_160 : decode cX3_lookAtAll 160 = .ok (.aload_n 0, 1) := by decide +kernel
theorem dX3_lookAtAll_161 : decode cX3_lookAtAll 161 = .ok (.dup, 1) := by decide +kernel
theorem dX3_lookAtAll_162 : decode cX3_lookAtAll 162 = .ok (.getfield 85, 3) := by decide +kernel
theorem dX3_lookAtAll_165 : decode cX3_lookAtAll 165 = .ok (.aload_n 0, 1) := by decide +kernel
theorem dX3_lookAtAll_166 : decode cX3_lookAtAll 166 = .ok (.aload_n 1, 1) := by decide +kernel
theorem dX3_lookAtAll_167 : decode cX3_lookAtAll 167 = .ok (.getfield 66, 3) := by decide +kernel
theorem dX3_lookAtAll_170 : decode cX3_lookAtAll 170 = .ok (.aload 4, 2) := by decide +kernel
theorem dX3_lookAtAll_172 : decode cX3_lookAtAll 172 = .ok (.invokevirtual 88, 3) := by decide +kernel
theorem dX3_lookAtAll_175 : decode cX3_lookAtAll 175 = .ok (.ifCond .eq 7, 3) := by decide +kernel
theorem dX3_lookAtAll_178 : decode cX3_lookAtAll 178 = .ok (.iconst 1, 1) := by decide +kernel
theorem dX3_lookAtAll_179 : decode cX3_lookAtAll 179 = .ok (.goto 4, 3) := by decide +kernel
theorem dX3_lookAtAll_182 : decode cX3_lookAtAll 182 = .ok (.iconst 0, 1) := by decide +kernel
theorem dX3_lookAtAll_183 : decode cX3_lookAtAll 183 = .ok (.iadd, 1) := by decide +kernel
theorem dX3_lookAtAll_184 : decode cX3_lookAtAll 184 = .ok (.putfield 85, 3) := by decide +kernel
theorem dX3_lookAtAll_187 : decode cX3_lookAtAll 187 = .ok (.aload_n 0, 1) := by decide +kernel
theorem dX3_lookAtAll_188 : decode cX3_lookAtAll 188 = .ok (.aload_n 1, 1) := by decide +kernel
theorem dX3_lookAtAll_189 : decode cX3_lookAtAll 189 = .ok (.getfield 31, 3) := by decide +kernel
theorem dX3_lookAtAll_192 : decode cX3_lookAtAll 192 = .ok (.invokevirtual 92, 3) := by decide +kernel
theorem dX3_lookAtAll_195 : decode cX3_lookAtAll 195 = .ok (.iinc 5 1, 3) := by decide +kernel
theorem dX3_lookAtAll_198 : decode cX3_lookAtAll 198 = .ok (.goto (-186), 3) := by decide +kernel
theorem dX3_lookAtAll_201 : decode cX3_lookAtAll 201 = .ok (.aload_n 0, 1) := by decide +kernel
theorem dX3_lookAtAll_202 : decode cX3_lookAtAll 202 = .ok (.iconst 1, 1) := by decide +kernel
theorem dX3_lookAtAll_203 : decode cX3_lookAtAll 203 = .ok (.putfield 96, 3) := by decide +kernel
theorem dX3_lookAtAll_206 : decode cX3_lookAtAll 206 = .ok (.return_, 1) := by decide +kernel
theorem dX3_begin_0 : decode cX3_begin 0 = .ok (.aload_n 0, 1) := by decide +kernel
theorem dX3_begin_1 : decode cX3_begin 1 = .ok (.iconst 1, 1) := by decide +kernel
theorem dX3_begin_2 : decode cX3_begin 2 = .ok (.putfield 41, 3) := by decide +kernel
theorem dX3_begin_5 : decode cX3_begin 5 = .ok (.iconst 0, 1) := by decide +kernel
theorem dX3_begin_6 : decode cX3_begin 6 = .ok (.istore_n 3, 1) := by decide +kernel
theorem dX3_begin_7 : decode cX3_begin 7 = .ok (.iload_n 3, 1) := by decide +kernel
theorem dX3_begin_8 : decode cX3_begin 8 = .ok (.iload_n 1, 1) := by decide +kernel
theorem dX3_begin_9 : decode cX3_begin 9 = .ok (.if_icmp .ge 37, 3) := by decide +kernel
theorem dX3_begin_12 : decode cX3_begin 12 = .ok (.aload_n 0, 1) := by decide +kernel
theorem dX3_begin_13 : decode cX3_begin 13 = .ok (.dup, 1) := by decide +kernel
theorem dX3_begin_14 : decode cX3_begin 14 = .ok (.getfield 41, 3) := by decide +kernel
theorem dX3_begin_17 : decode cX3_begin 17 = .ok (.iload_n 3, 1) := by decide +kernel
theorem dX3_begin_18 : decode cX3_begin 18 = .ok (.iconst 1, 1) := by decide +kernel
theorem dX3_begin_19 : decode cX3_begin 19 = .ok (.iadd, 1) := by decide +kernel
theorem dX3_begin_20 : decode cX3_begin 20 = .ok (.imul, 1) := by decide +kernel
theorem dX3_begin_21 : decode cX3_begin 21 = .ok (.putfield 41, 3) := by decide +kernel
theorem dX3_begin_24 : decode cX3_begin 24 = .ok (.aload_n 0, 1) := by decide +kernel
theorem dX3_begin_25 : decode cX3_begin 25 = .ok (.getfield 18, 3) := by decide +kernel
theorem dX3_begin_28 : decode cX3_begin 28 = .ok (.iload_n 3, 1) := by decide +kernel
theorem dX3_begin_29 : decode cX3_begin 29 = .ok (.iload_n 3, 1) := by decide +kernel
theorem dX3_begin_30 : decode cX3_begin 30 = .ok (.iastore, 1) := by decide +kernel
theorem dX3_begin_31 : decode cX3_begin 31 = .ok (.aload_n 0, 1) := by decide +kernel
theorem dX3_begin_32 : decode cX3_begin 32 = .ok (.getfield 21, 3) := by decide +kernel
theorem dX3_begin_35 : decode cX3_begin 35 = .ok (.aload_n 2, 1) := by decide +kernel
theorem dX3_begin_36 : decode cX3_begin 36 = .ok (.iload_n 3, 1) := by decide +kernel
theorem dX3_begin_37 : decode cX3_begin 37 = .ok (.iaload, 1) := by decide +kernel
theorem dX3_begin_38 : decode cX3_begin 38 = .ok (.iload_n 3, 1) := by decide +kernel
theorem dX3_begin_39 : decode cX3_begin 39 = .ok (.iastore, 1) := by decide +kernel
theorem dX3_begin_40 : decode cX3_begin 40 = .ok (.iinc 3 1, 3) := by decide +kernel
theorem dX3_begin_43 : decode cX3_begin 43 = .ok (.goto (-36), 3) := by decide +kernel
theorem dX3_begin_46 : decode cX3_begin 46 = .ok (.aload_n 0, 1) := by decide +kernel
theorem dX3_begin_47 : decode cX3_begin 47 = .ok (.iconst 0, 1) := by decide +kernel
theorem dX3_begin_48 : decode cX3_begin 48 = .ok (.putfield 69, 3) := by decide +kernel
theorem dX3_begin_51 : decode cX3_begin 51 = .ok (.aload_n 0, 1) := by decide +kernel
theorem dX3_begin_52 : decode cX3_begin 52 = .ok (.iconst 0, 1) := by decide +kernel
theorem dX3_begin_53 : decode cX3_begin 53 = .ok (.putfield 85, 3) := by decide +kernel
theorem dX3_begin_56 : decode cX3_begin 56 = .ok (.aload_n 0, 1) := by decide +kernel
theorem dX3_begin_57 : decode cX3_begin 57 = .ok (.bipush (-4), 2) := by decide +kernel
theorem dX3_begin_59 : decode cX3_begin 59 = .ok (.putfield 76, 3) := by decide +kernel
theorem dX3_begin_62 : decode cX3_begin 62 = .ok (.aload_n 0, 1) := by decide +kernel
theorem dX3_begin_63 : decode cX3_begin 63 = .ok (.iconst (-1), 1) := by decide +kernel
theorem dX3_begin_64 : decode cX3_begin 64 = .ok (.putfield 54, 3) := by decide +kernel
theorem dX3_begin_67 : decode cX3_begin 67 = .ok (.aload_n 0, 1) := by decide +kernel
theorem dX3_begin_68 : decode cX3_begin 68 = .ok (.getfield 15, 3) := by decide +kernel
theorem dX3_begin_71 : decode cX3_begin 71 = .ok (.iconst 0, 1) := by decide +kernel
theorem dX3_begin_72 : decode cX3_begin 72 = .ok (.invokestatic 100, 3) := by decide +kernel
theorem dX3_begin_75 : decode cX3_begin 75 = .ok (.return_, 1) := by decide +kernel
theorem dX3_soundsAlike_0 : decode cX3_soundsAlike 0 = .ok (.iconst 0, 1) := by decide +kernel
theorem dX3_soundsAlike_1 : decode cX3_soundsAlike 1 = .ok (.istore_n 3, 1) := by decide +kernel
theorem dX3_soundsAlike_2 : decode cX3_soundsAlike 2 = .ok (.iload_n 3, 1) := by decide +kernel
theorem dX3_soundsAlike_3 : decode cX3_soundsAlike 3 = .ok (.iload_n 1, 1) := by decide +kernel
theorem dX3_soundsAlike_4 : decode cX3_soundsAlike 4 = .ok (.if_icmp .ge 29, 3) := by decide +kernel
theorem dX3_soundsAlike_7 : decode cX3_soundsAlike 7 = .ok (.aload_n 0, 1) := by decide +kernel
theorem dX3_soundsAlike_8 : decode cX3_soundsAlike 8 = .ok (.getfield 27, 3) := by decide +kernel
theorem dX3_soundsAlike_11 : decode cX3_soundsAlike 11 = .ok (.getfield 106, 3) := by decide +kernel
theorem dX3_soundsAlike_14 : decode cX3_soundsAlike 14 = .ok (.iload_n 3, 1) := by decide +kernel
theorem dX3_soundsAlike_15 : decode cX3_soundsAlike 15 = .ok (.iaload, 1) := by decide +kernel
theorem dX3_soundsAlike_16 : decode cX3_soundsAlike 16 = .ok (.aload_n 2, 1) := by decide +kernel
theorem dX3_soundsAlike_17 : decode cX3_soundsAlike 17 = .ok (.getfield 106, 3) := by decide +kernel
theorem dX3_soundsAlike_20 : decode cX3_soundsAlike 20 = .ok (.iload_n 3, 1) := by decide +kernel
theorem dX3_soundsAlike_21 : decode cX3_soundsAlike 21 = .ok (.iaload, 1) := by decide +kernel
theorem dX3_soundsAlike_22 : decode cX3_soundsAlike 22 = .ok (.if_icmp .eq 5, 3) := by decide +kernel
theorem dX3_soundsAlike_25 : decode cX3_soundsAlike 25 = .ok (.iconst 0, 1) := by decide +kernel
theorem dX3_soundsAlike_26 : decode cX3_soundsAlike 26 = .ok (.ireturn, 1) := by decide +kernel
theorem dX3_soundsAlike_27 : decode cX3_soundsAlike 27 = .ok (.iinc 3 1, 3) := by decide +kernel
theorem dX3_soundsAlike_30 : decode cX3_soundsAlike 30 = .ok (.goto (-28), 3) := by decide +kernel
theorem dX3_soundsAlike_33 : decode cX3_soundsAlike 33 = .ok (.iconst 1, 1) := by decide +kernel
theorem dX3_soundsAlike_34 : decode cX3_soundsAlike 34 = .ok (.ireturn, 1) := by decide +kernel
theorem dX3_changesToTrial_0 : decode cX3_changesToTrial 0 = .ok (.iconst 0, 1) := by decide +kernel
theorem dX3_changesToTrial_1 : decode cX3_changesToTrial 1 = .ok (.istore_n 2, 1) := by decide +kernel
theorem dX3_changesToTrial_2 : decode cX3_changesToTrial 2 = .ok (.iconst 0, 1) := by decide +kernel
theorem dX3_changesToTrial_3 : decode cX3_changesToTrial 3 = .ok (.istore_n 3, 1) := by decide +kernel
theorem dX3_changesToTrial_4 : decode cX3_changesToTrial 4 = .ok (.iconst 0, 1) := by decide +kernel
theorem dX3_changesToTrial_5 : decode cX3_changesToTrial 5 = .ok (.istore 4, 2) := by decide +kernel
theorem dX3_changesToTrial_7 : decode cX3_changesToTrial 7 = .ok (.iload 4, 2) := by decide +kernel
theorem dX3_changesToTrial_9 : decode cX3_changesToTrial 9 = .ok (.iload_n 1, 1) := by decide +kernel
theorem dX3_changesToTrial_10 : decode cX3_changesToTrial 10 = .ok (.if_icmp .ge 75, 3) := by decide +kernel
theorem dX3_changesToTrial_13 : decode cX3_changesToTrial 13 = .ok (.iload_n 3, 1) := by decide +kernel
theorem dX3_changesToTrial_14 : decode cX3_changesToTrial 14 = .ok (.iload_n 2, 1) := by decide +kernel
theorem dX3_changesToTrial_15 : decode cX3_changesToTrial 15 = .ok (.iload 4, 2) := by decide +kernel
theorem dX3_changesToTrial_17 : decode cX3_changesToTrial 17 = .ok (.ishr, 1) := by decide +kernel
theorem dX3_changesToTrial_18 : decode cX3_changesToTrial 18 = .ok (.iconst 1, 1) := by decide +kernel
theorem dX3_changesToTrial_19 : decode cX3_changesToTrial 19 = .ok (.iand, 1) := by decide +kernel
theorem dX3_changesToTrial_20 : decode cX3_changesToTrial 20 = .ok (.ifCond .ne 7, 3) := by decide +kernel
theorem dX3_changesToTrial_23 : decode cX3_changesToTrial 23 = .ok (.iconst 1, 1) := by decide +kernel
theorem dX3_changesToTrial_24 : decode cX3_changesToTrial 24 = .ok (.goto 4, 3) := by decide +kernel
theorem dX3_changesToTrial_27 : decode cX3_changesToTrial 27 = .ok (.iconst 0, 1) := by decide +kernel
theorem dX3_changesToTrial_28 : decode cX3_changesToTrial 28 = .ok (.iadd, 1) := by decide +kernel
theorem dX3_changesToTrial_29 : decode cX3_changesToTrial 29 = .ok (.istore_n 3, 1) := by decide +kernel
theorem dX3_changesToTrial_30 : decode cX3_changesToTrial 30 = .ok (.iload 4, 2) := by decide +kernel
theorem dX3_changesToTrial_32 : decode cX3_changesToTrial 32 = .ok (.istore 5, 2) := by decide +kernel
theorem dX3_changesToTrial_34 : decode cX3_changesToTrial 34 = .ok (.iconst 0, 1) := by decide +kernel
theorem dX3_changesToTrial_35 : decode cX3_changesToTrial 35 = .ok (.istore 6, 2) := by decide +kernel
theorem dX3_changesToTrial_37 : decode cX3_changesToTrial 37 = .ok (.iload 6, 2) := by decide +kernel
theorem dX3_changesToTrial_39 : decode cX3_changesToTrial 39 = .ok (.iload_n 1, 1) := by decide +kernel
theorem dX3_changesToTrial_40 : decode cX3_changesToTrial 40 = .ok (.if_icmp .ge 39, 3) := by decide +kernel
theorem dX3_changesToTrial_43 : decode cX3_changesToTrial 43 = .ok (.iload_n 2, 1) := by decide +kernel
theorem dX3_changesToTrial_44 : decode cX3_changesToTrial 44 = .ok (.iload 5, 2) := by decide +kernel
theorem dX3_changesToTrial_46 : decode cX3_changesToTrial 46 = .ok (.ishr, 1) := by decide +kernel
theorem dX3_changesToTrial_47 : decode cX3_changesToTrial 47 = .ok (.iconst 1, 1) := by decide +kernel
theorem dX3_changesToTrial_48 : decode cX3_changesToTrial 48 = .ok (.iand, 1) := by decide +kernel
theorem dX3_changesToTrial_49 : decode cX3_changesToTrial 49 = .ok (.ifCond .ne 30, 3) := by decide +kernel
theorem dX3_changesToTrial_52 : decode cX3_changesToTrial 52 = .ok (.iload_n 2, 1) := by decide +kernel
theorem dX3_changesToTrial_53 : decode cX3_changesToTrial 53 = .ok (.iconst 1, 1) := by decide +kernel
theorem dX3_changesToTrial_54 : decode cX3_changesToTrial 54 = .ok (.iload 5, 2) := by decide +kernel
theorem dX3_changesToTrial_56 : decode cX3_changesToTrial 56 = .ok (.ishl, 1) := by decide +kernel
theorem dX3_changesToTrial_57 : decode cX3_changesToTrial 57 = .ok (.ior, 1) := by decide +kernel
theorem dX3_changesToTrial_58 : decode cX3_changesToTrial 58 = .ok (.istore_n 2, 1) := by decide +kernel
theorem dX3_changesToTrial_59 : decode cX3_changesToTrial 59 = .ok (.aload_n 0, 1) := by decide +kernel
theorem dX3_changesToTrial_60 : decode cX3_changesToTrial 60 = .ok (.getfield 21, 3) := by decide +kernel
theorem dX3_changesToTrial_63 : decode cX3_changesToTrial 63 = .ok (.aload_n 0, 1) := by decide +kernel
theorem dX3_changesToTrial_64 : decode cX3_changesToTrial 64 = .ok (.getfield 18, 3) := by decide +kernel
theorem dX3_changesToTrial_67 : decode cX3_changesToTrial 67 = .ok (.iload 5, 2) := by decide +kernel
theorem dX3_changesToTrial_69 : decode cX3_changesToTrial 69 = .ok (.iaload, 1) := by decide +kernel
theorem dX3_changesToTrial_70 : decode cX3_changesToTrial 70 = .ok (.iaload, 1) := by decide +kernel
theorem dX3_changesToTrial_71 : decode cX3_changesToTrial 71 = .ok (.istore 5, 2) := by decide +kernel
theorem dX3_changesToTrial_73 : decode cX3_changesToTrial 73 = .ok (.iinc 6 1, 3) := by decide +kernel
theorem dX3_changesToTrial_76 : decode cX3_changesToTrial 76 = .ok (.goto (-39), 3) := by decide +kernel
theorem dX3_changesToTrial_79 : decode cX3_changesToTrial 79 = .ok (.iinc 4 1, 3) := by decide +kernel
theorem dX3_changesToTrial_82 : decode cX3_changesToTrial 82 = .ok (.goto (-75), 3) := by decide +kernel
theorem dX3_changesToTrial_85 : decode cX3_changesToTrial 85 = .ok (.iload_n 1, 1) := by decide +kernel
theorem dX3_changesToTrial_86 : decode cX3_changesToTrial 86 = .ok (.iload_n 3, 1) := by decide +kernel
theorem dX3_changesToTrial_87 : decode cX3_changesToTrial 87 = .ok (.isub, 1) := by decide +kernel
theorem dX3_changesToTrial_88 : decode cX3_changesToTrial 88 = .ok (.ireturn, 1) := by decide +kernel
theorem dX3_goToNextSeating_0 : decode cX3_goToNextSeating 0 = .ok (.iload_n 1, 1) := by decide +kernel
theorem dX3_goToNextSeating_1 : decode cX3_goToNextSeating 1 = .ok (.iconst 2, 1) := by decide +kernel
theorem dX3_goToNextSeating_2 : decode cX3_goToNextSeating 2 = .ok (.isub, 1) := by decide +kernel
theorem dX3_goToNextSeating_3 : decode cX3_goToNextSeating 3 = .ok (.istore_n 2, 1) := by decide +kernel
theorem dX3_goToNextSeating_4 : decode cX3_goToNextSeating 4 = .ok (.iload_n 2, 1) := by decide +kernel
theorem dX3_goToNextSeating_5 : decode cX3_goToNextSeating 5 = .ok (.ifCond .lt 26, 3) := by decide +kernel
theorem dX3_goToNextSeating_8 : decode cX3_goToNextSeating 8 = .ok (.aload_n 0, 1) := by decide +kernel
theorem dX3_goToNextSeating_9 : decode cX3_goToNextSeating 9 = .ok (.getfield 18, 3) := by decide +kernel
theorem dX3_goToNextSeating_12 : decode cX3_goToNextSeating 12 = .ok (.iload_n 2, 1) := by decide +kernel
theorem dX3_goToNextSeating_13 : decode cX3_goToNextSeating 13 = .ok (.iaload, 1) := by decide +kernel
theorem dX3_goToNextSeating_14 : decode cX3_goToNextSeating 14 = .ok (.aload_n 0, 1) := by decide +kernel
theorem dX3_goToNextSeating_15 : decode cX3_goToNextSeating 15 = .ok (.getfield 18, 3) := by decide +kernel
theorem dX3_goToNextSeating_18 : decode cX3_goToNextSeating 18 = .ok (.iload_n 2, 1) := by decide +kernel
theorem dX3_goToNextSeating_19 : decode cX3_goToNextSeating 19 = .ok (.iconst 1, 1) := by decide +kernel
theorem dX3_goToNextSeating_20 : decode cX3_goToNextSeating 20 = .ok (.iadd, 1) := by decide +kernel
theorem dX3_goToNextSeating_21 : decode cX3_goToNextSeating 21 = .ok (.iaload, 1) := by decide +kernel
theorem dX3_goToNextSeating_22 : decode cX3_goToNextSeating 22 = .ok (.if_icmp .le 9, 3) := by decide +kernel
theorem dX3_goToNextSeating_25 : decode cX3_goToNextSeating 25 = .ok (.iinc 2 (-1), 3) := by decide +kernel
theorem dX3_goToNextSeating_28 : decode cX3_goToNextSeating 28 = .ok (.goto (-24), 3) := by decide +kernel
theorem dX3_goToNextSeating_31 : decode cX3_goToNextSeating 31 = .ok (.iload_n 2, 1) := by decide +kernel
theorem dX3_goToNextSeating_32 : decode cX3_goToNextSeating 32 = .ok (.ifCond .ge 4, 3) := by decide +kernel
theorem dX3_goToNextSeating_35 : decode cX3_goToNextSeating 35 = .ok (.return_, 1) := by decide +kernel
theorem dX3_goToNextSeating_36 : decode cX3_goToNextSeating 36 = .ok (.iload_n 1, 1) := by decide +kernel
theorem dX3_goToNextSeating_37 : decode cX3_goToNextSeating 37 = .ok (.iconst 1, 1) := by decide +kernel
theorem dX3_goToNextSeating_38 : decode cX3_goToNextSeating 38 = .ok (.isub, 1) := by decide +kernel
theorem dX3_goToNextSeating_39 : decode cX3_goToNextSeating 39 = .ok (.istore_n 3, 1) := by decide +kernel
theorem dX3_goToNextSeating_40 : decode cX3_goToNextSeating 40 = .ok (.iload_n 3, 1) := by decide +kernel
theorem dX3_goToNextSeating_41 : decode cX3_goToNextSeating 41 = .ok (.iload_n 2, 1) := by decide +kernel
theorem dX3_goToNextSeating_42 : decode cX3_goToNextSeating 42 = .ok (.iconst 1, 1) := by decide +kernel
theorem dX3_goToNextSeating_43 : decode cX3_goToNextSeating 43 = .ok (.iadd, 1) := by decide +kernel
theorem dX3_goToNextSeating_44 : decode cX3_goToNextSeating 44 = .ok (.if_icmp .le 24, 3) := by decide +kernel
theorem dX3_goToNextSeating_47 : decode cX3_goToNextSeating 47 = .ok (.aload_n 0, 1) := by decide +kernel
theorem dX3_goToNextSeating_48 : decode cX3_goToNextSeating 48 = .ok (.getfield 18, 3) := by decide +kernel
theorem dX3_goToNextSeating_51 : decode cX3_goToNextSeating 51 = .ok (.iload_n 3, 1) := by decide +kernel
theorem dX3_goToNextSeating_52 : decode cX3_goToNextSeating 52 = .ok (.iaload, 1) := by decide +kernel
theorem dX3_goToNextSeating_53 : decode cX3_goToNextSeating 53 = .ok (.aload_n 0, 1) := by decide +kernel
theorem dX3_goToNextSeating_54 : decode cX3_goToNextSeating 54 = .ok (.getfield 18, 3) := by decide +kernel
theorem dX3_goToNextSeating_57 : decode cX3_goToNextSeating 57 = .ok (.iload_n 2, 1) := by decide +kernel
theorem dX3_goToNextSeating_58 : decode cX3_goToNextSeating 58 = .ok (.iaload, 1) := by decide +kernel
theorem dX3_goToNextSeating_59 : decode cX3_goToNextSeating 59 = .ok (.if_icmp .ge 9, 3) := by decide +kernel
theorem dX3_goToNextSeating_62 : decode cX3_goToNextSeating 62 = .ok (.iinc 3 (-1), 3) := by decide +kernel
theorem dX3_goToNextSeating_65 : decode cX3_goToNextSeating 65 = .ok (.goto (-25), 3) := by decide +kernel
theorem dX3_goToNextSeating_68 : decode cX3_goToNextSeating 68 = .ok (.aload_n 0, 1) := by decide +kernel
theorem dX3_goToNextSeating_69 : decode cX3_goToNextSeating 69 = .ok (.getfield 18, 3) := by decide +kernel
theorem dX3_goToNextSeating_72 : decode cX3_goToNextSeating 72 = .ok (.iload_n 2, 1) := by decide +kernel
theorem dX3_goToNextSeating_73 : decode cX3_goToNextSeating 73 = .ok (.iload_n 3, 1) := by decide +kernel
theorem dX3_goToNextSeating_74 : decode cX3_goToNextSeating 74 = .ok (.invokestatic 109, 3) := by decide +kernel
theorem dX3_goToNextSeating_77 : decode cX3_goToNextSeating 77 = .ok (.iload_n 2, 1) := by decide +kernel
theorem dX3_goToNextSeating_78 : decode cX3_goToNextSeating 78 = .ok (.iconst 1, 1) := by decide +kernel
theorem dX3_goToNextSeating_79 : decode cX3_goToNextSeating 79 = .ok (.iadd, 1) := by decide +kernel
theorem dX3_goToNextSeating_80 : decode cX3_goToNextSeating 80 = .ok (.istore 4, 2) := by decide +kernel
theorem dX3_goToNextSeating_82 : decode cX3_goToNextSeating 82 = .ok (.iload_n 1, 1) := by decide +kernel
theorem dX3_goToNextSeating_83 : decode cX3_goToNextSeating 83 = .ok (.iconst 1, 1) := by decide +kernel
theorem dX3_goToNextSeating_84 : decode cX3_goToNextSeating 84 = .ok (.isub, 1) := by decide +kernel
theorem dX3_goToNextSeating_85 : decode cX3_goToNextSeating 85 = .ok (.istore 5, 2) := by decide +kernel
theorem dX3_goToNextSeating_87 : decode cX3_goToNextSeating 87 = .ok (.iload 5, 2) := by decide +kernel
theorem dX3_goToNextSeating_89 : decode cX3_goToNextSeating 89 = .ok (.iload 4, 2) := by decide +kernel
theorem dX3_goToNextSeating_91 : decode cX3_goToNextSeating 91 = .ok (.if_icmp .le 23, 3) := by decide +kernel
theorem dX3_goToNextSeating_94 : decode cX3_goToNextSeating 94 = .ok (.aload_n 0, 1) := by decide +kernel
theorem dX3_goToNextSeating_95 : decode cX3_goToNextSeating 95 = .ok (.getfield 18, 3) := by decide +kernel
theorem dX3_goToNextSeating_98 : decode cX3_goToNextSeating 98 = .ok (.iload 4, 2) := by decide +kernel
theorem dX3_goToNextSeating_100 : decode cX3_goToNextSeating 100 = .ok (.iload 5, 2) := by decide +kernel
theorem dX3_goToNextSeating_102 : decode cX3_goToNextSeating 102 = .ok (.invokestatic 109, 3) := by decide +kernel
theorem dX3_goToNextSeating_105 : decode cX3_goToNextSeating 105 = .ok (.iinc 4 1, 3) := by decide +kernel
theorem dX3_goToNextSeating_108 : decode cX3_goToNextSeating 108 = .ok (.iinc 5 (-1), 3) := by decide +kernel
theorem dX3_goToNextSeating_111 : decode cX3_goToNextSeating 111 = .ok (.goto (-24), 3) := by decide +kernel
theorem dX3_goToNextSeating_114 : decode cX3_goToNextSeating 114 = .ok (.return_, 1) := by decide +kernel
theorem dX4_init_0 : decode cX4_init 0 = .ok (.aload_n 0, 1) := by decide +kernel
theorem dX4_init_1 : decode cX4_init 1 = .ok (.invokespecial 3, 3) := by decide +kernel
theorem dX4_init_4 : decode cX4_init 4 = .ok (.aload_n 0, 1) := by decide +kernel
theorem dX4_init_5 : decode cX4_init 5 = .ok (.new 9, 3) := by decide +kernel
theorem dX4_init_8 : decode cX4_init 8 = .ok (.dup, 1) := by decide +kernel
theorem dX4_init_9 : decode cX4_init 9 = .ok (.invokespecial 11, 3) := by decide +kernel
theorem dX4_init_12 : decode cX4_init 12 = .ok (.putfield 12, 3) := by decide +kernel
theorem dX4_init_15 : decode cX4_init 15 = .ok (.aload_n 0, 1) := by decide +kernel
theorem dX4_init_16 : decode cX4_init 16 = .ok (.new 16, 3) := by decide +kernel
theorem dX4_init_19 : decode cX4_init 19 = .ok (.dup, 1) := by decide +kernel
theorem dX4_init_20 : decode cX4_init 20 = .ok (.invokespecial 18, 3) := by decide +kernel
theorem dX4_init_23 : decode cX4_init 23 = .ok (.putfield 19, 3) := by decide +kernel
theorem dX4_init_26 : decode cX4_init 26 = .ok (.aload_n 0, 1) := by decide +kernel
theorem dX4_init_27 : decode cX4_init 27 = .ok (.bipush 7, 2) := by decide +kernel
theorem dX4_init_29 : decode cX4_init 29 = .ok (.newarray .int, 2) := by decide +kernel
theorem dX4_init_31 : decode cX4_init 31 = .ok (.putfield 23, 3) := by decide +kernel
theorem dX4_init_34 : decode cX4_init 34 = .ok (.aload_n 0, 1) := by decide +kernel
theorem dX4_init_35 : decode cX4_init 35 = .ok (.new 27, 3) := by decide +kernel
theorem dX4_init_38 : decode cX4_init 38 = .ok (.dup, 1) := by decide +kernel
theorem dX4_init_39 : decode cX4_init 39 = .ok (.invokespecial 29, 3) := by decide +kernel
theorem dX4_init_42 : decode cX4_init 42 = .ok (.putfield 30, 3) := by decide +kernel
theorem dX4_init_45 : decode cX4_init 45 = .ok (.aload_n 0, 1) := by decide +kernel
theorem dX4_init_46 : decode cX4_init 46 = .ok (.new 34, 3) := by decide +kernel
theorem dX4_init_49 : decode cX4_init 49 = .ok (.dup, 1) := by decide +kernel
theorem dX4_init_50 : decode cX4_init 50 = .ok (.invokespecial 36, 3) := by decide +kernel
theorem dX4_init_53 : decode cX4_init 53 = .ok (.putfield 37, 3) := by decide +kernel
theorem dX4_init_56 : decode cX4_init 56 = .ok (.aload_n 0, 1) := by decide +kernel
theorem dX4_init_57 : decode cX4_init 57 = .ok (.bipush 7, 2) := by decide +kernel
theorem dX4_init_59 : decode cX4_init 59 = .ok (.newarray .int, 2) := by decide +kernel
theorem dX4_init_61 : decode cX4_init 61 = .ok (.putfield 41, 3) := by decide +kernel
theorem dX4_init_64 : decode cX4_init 64 = .ok (.aload_n 0, 1) := by decide +kernel
theorem dX4_init_65 : decode cX4_init 65 = .ok (.new 27, 3) := by decide +kernel
theorem dX4_init_68 : decode cX4_init 68 = .ok (.dup, 1) := by decide +kernel
theorem dX4_init_69 : decode cX4_init 69 = .ok (.invokespecial 29, 3) := by decide +kernel
theorem dX4_init_72 : decode cX4_init 72 = .ok (.putfield 44, 3) := by decide +kernel
theorem dX4_init_75 : decode cX4_init 75 = .ok (.aload_n 0, 1) := by decide +kernel
theorem dX4_init_76 : decode cX4_init 76 = .ok (.bipush 8, 2) := by decide +kernel
theorem dX4_init_78 : decode cX4_init 78 = .ok (.newarray .int, 2) := by decide +kernel
theorem dX4_init_80 : decode cX4_init 80 = .ok (.putfield 47, 3) := by decide +kernel
theorem dX4_init_83 : decode cX4_init 83 = .ok (.aload_n 0, 1) := by decide +kernel
theorem dX4_init_84 : decode cX4_init 84 = .ok (.bipush 8, 2) := by decide +kernel
theorem dX4_init_86 : decode cX4_init 86 = .ok (.newarray .int, 2) := by decide +kernel
theorem dX4_init_88 : decode cX4_init 88 = .ok (.putfield 50, 3) := by decide +kernel
theorem dX4_init_91 : decode cX4_init 91 = .ok (.aload_n 0, 1) := by decide +kernel
theorem dX4_init_92 : decode cX4_init 92 = .ok (.bipush 8, 2) := by decide +kernel
theorem dX4_init_94 : decode cX4_init 94 = .ok (.newarray .int, 2) := by decide +kernel
theorem dX4_init_96 : decode cX4_init 96 = .ok (.putfield 53, 3) := by decide +kernel
theorem dX4_init_99 : decode cX4_init 99 = .ok (.aload_n 0, 1) := by decide +kernel
theorem dX4_init_100 : decode cX4_init 100 = .ok (.bipush 8, 2) := by decide +kernel
theorem dX4_init_102 : decode cX4_init 102 = .ok (.newarray .int, 2) := by decide +kernel
theorem dX4_init_104 : decode cX4_init 104 = .ok (.putfield 56, 3) := by decide +kernel
theorem dX4_init_107 : decode cX4_init 107 = .ok (.aload_n 0, 1) := by decide +kernel
theorem dX4_init_108 : decode cX4_init 108 = .ok (.iconst 2, 1) := by decide +kernel
theorem dX4_init_109 : decode cX4_init 109 = .ok (.bipush 7, 2) := by decide +kernel
theorem dX4_init_111 : decode cX4_init 111 = .ok (.multianewarray 59 2, 4) := by decide +kernel
theorem dX4_init_115 : decode cX4_init 115 = .ok (.putfield 61, 3) := by decide +kernel
theorem dX4_init_118 : decode cX4_init 118 = .ok (.aload_n 0, 1) := by decide +kernel
theorem dX4_init_119 : decode cX4_init 119 = .ok (.iconst 2, 1) := by decide +kernel
theorem dX4_init_120 : decode cX4_init 120 = .ok (.newarray .int, 2) := by decide +kernel
theorem dX4_init_122 : decode cX4_init 122 = .ok (.putfield 64, 3) := by decide +kernel
theorem dX4_init_125 : decode cX4_init 125 = .ok (.iconst 0, 1) := by decide +kernel
theorem dX4_init_126 : decode cX4_init 126 = .ok (.istore_n 1, 1) := by decide +kernel
theorem dX4_init_127 : decode cX4_init 127 = .ok (.iload_n 1, 1) := by decide +kernel
theorem dX4_init_128 : decode cX4_init 128 = .ok (.ldc 67, 2) := by decide +kernel
theorem dX4_init_130 : decode cX4_init 130 = .ok (.invokevirtual 69, 3) := by decide +kernel
theorem dX4_init_133 : decode cX4_init 133 = .ok (.if_icmp .ge 23, 3) := by decide +kernel
theorem dX4_init_136 : decode cX4_init 136 = .ok (.aload_n 0, 1) := by decide +kernel
theorem dX4_init_137 : decode cX4_init 137 = .ok (.getfield 12, 3) := by decide +kernel
theorem dX4_init_140 : decode cX4_init 140 = .ok (.ldc 67, 2) := by decide +kernel
theorem dX4_init_142 : decode cX4_init 142 = .ok (.iload_n 1, 1) := by decide +kernel
theorem dX4_init_143 : decode cX4_init 143 = .ok (.invokevirtual 75, 3) := by decide +kernel
theorem dX4_init_146 : decode cX4_init 146 = .ok (.invokevirtual 79, 3) := by decide +kernel
theorem dX4_init_149 : decode cX4_init 149 = .ok (.pop, 1) := by decide +kernel
theorem dX4_init_150 : decode cX4_init 150 = .ok (.iinc 1 1, 3) := by decide +kernel
theorem dX4_init_153 : decode cX4_init 153 = .ok (.goto (-26), 3) := by decide +kernel
theorem dX4_init_156 : decode cX4_init 156 = .ok (.aload_n 0, 1) := by decide +kernel
theorem dX4_init_157 : decode cX4_init 157 = .ok (.invokevirtual 83, 3) := by decide +kernel
theorem dX4_init_160 : decode cX4_init 160 = .ok (.pop, 1) := by decide +kernel
theorem dX4_init_161 : decode cX4_init 161 = .ok (.aload_n 0, 1) := by decide +kernel
theorem dX4_init_162 : decode cX4_init 162 = .ok (.getfield 12, 3) := by decide +kernel
theorem dX4_init_165 : decode cX4_init 165 = .ok (.iconst 0, 1) := by decide +kernel
theorem dX4_init_166 : decode cX4_init 166 = .ok (.putfield 87, 3) := by decide +kernel
theorem dX4_init_169 : decode cX4_init 169 = .ok (.return_, 1) := by decide +kernel
theorem dX4_write_0 : decode cX4_write 0 = .ok (.iload_n 1, 1) := by decide +kernel
theorem dX4_write_1 : decode cX4_write 1 = .ok (.bipush 32, 2) := by decide +kernel
theorem dX4_write_3 : decode cX4_write 3 = .ok (.if_icmp .lt 9, 3) := by decide +kernel
theorem dX4_write_6 : decode cX4_write 6 = .ok (.iload_n 1, 1) := by decide +kernel
theorem dX4_write_7 : decode cX4_write 7 = .ok (.bipush 126, 2) := by decide +kernel
theorem dX4_write_9 : decode cX4_write 9 = .ok (.if_icmp .le 5, 3) := by decide +kernel
theorem dX4_write_12 : decode cX4_write 12 = .ok (.iconst (-1), 1) := by decide +kernel
theorem dX4_write_13 : decode cX4_write 13 = .ok (.ireturn, 1) := by decide +kernel
theorem dX4_write_14 : decode cX4_write 14 = .ok (.aload_n 0, 1) := by decide +kernel
theorem dX4_write_15 : decode cX4_write 15 = .ok (.getfield 12, 3) := by decide +kernel
theorem dX4_write_18 : decode cX4_write 18 = .ok (.iload_n 1, 1) := by decide +kernel
theorem dX4_write_19 : decode cX4_write 19 = .ok (.i2c, 1) := by decide +kernel
theorem dX4_write_20 : decode cX4_write 20 = .ok (.invokevirtual 79, 3) := by decide +kernel
theorem dX4_write_23 : decode cX4_write 23 = .ok (.ifCond .eq 13, 3) := by decide +kernel
theorem dX4_write_26 : decode cX4_write 26 = .ok (.aload_n 0, 1) := by decide +kernel
theorem dX4_write_27 : decode cX4_write 27 = .ok (.getfield 12, 3) := by decide +kernel
theorem dX4_write_30 : decode cX4_write 30 = .ok (.getfield 87, 3) := by decide +kernel
theorem dX4_write_33 : decode cX4_write 33 = .ok (.goto 5, 3) := by decide +kernel
theorem dX4_write_36 : decode cX4_write 36 = .ok (.bipush (-3), 2) := by decide +kernel
theorem dX4_write_38 : decode cX4_write 38 = .ok (.ireturn, 1) := by decide +kernel
theorem dX4_wipe_0 : decode cX4_wipe 0 = .ok (.aload_n 0, 1) := by decide +kernel
theorem dX4_wipe_1 : decode cX4_wipe 1 = .ok (.getfield 12, 3) := by decide +kernel
theorem dX4_wipe_4 : decode cX4_wipe 4 = .ok (.getfield 87, 3) := by decide +kernel
theorem dX4_wipe_7 : decode cX4_wipe 7 = .ok (.istore_n 1, 1) := by decide +kernel
theorem dX4_wipe_8 : decode cX4_wipe 8 = .ok (.aload_n 0, 1) := by decide +kernel
theorem dX4_wipe_9 : decode cX4_wipe 9 = .ok (.getfield 12, 3) := by decide +kernel
theorem dX4_wipe_12 : decode cX4_wipe 12 = .ok (.iconst 0, 1) := by decide +kernel
theorem dX4_wipe_13 : decode cX4_wipe 13 = .ok (.putfield 87, 3) := by decide +kernel
theorem dX4_wipe_16 : decode cX4_wipe 16 = .ok (.iload_n 1, 1) := by decide +kernel
theorem dX4_wipe_17 : decode cX4_wipe 17 = .ok (.ireturn, 1) := by decide +kernel
theorem dX4_fault_0 : decode cX4_fault 0 = .ok (.aload_n 0, 1) := by decide +kernel
theorem dX4_fault_1 : decode cX4_fault 1 = .ok (.getfield 12, 3) := by decide +kernel
theorem dX4_fault_4 : decode cX4_fault 4 = .ok (.invokevirtual 90, 3) := by decide +kernel
theorem dX4_fault_7 : decode cX4_fault 7 = .ok (.ireturn, 1) := by decide +kernel
theorem dX4_lay_0 : decode cX4_lay 0 = .ok (.aload_n 0, 1) := by decide +kernel
theorem dX4_lay_1 : decode cX4_lay 1 = .ok (.invokevirtual 83, 3) := by decide +kernel
theorem dX4_lay_4 : decode cX4_lay 4 = .ok (.ifCond .eq 13, 3) := by decide +kernel
theorem dX4_lay_7 : decode cX4_lay 7 = .ok (.aload_n 0, 1) := by decide +kernel
theorem dX4_lay_8 : decode cX4_lay 8 = .ok (.getfield 19, 3) := by decide +kernel
theorem dX4_lay_11 : decode cX4_lay 11 = .ok (.getfield 93, 3) := by decide +kernel
theorem dX4_lay_14 : decode cX4_lay 14 = .ok (.goto 5, 3) := by decide +kernel
theorem dX4_lay_17 : decode cX4_lay 17 = .ok (.bipush (-2), 2) := by decide +kernel
theorem dX4_lay_19 : decode cX4_lay 19 = .ok (.ireturn, 1) := by decide +kernel
theorem dX4_instrument_0 : decode cX4_instrument 0 = .ok (.aload_n 0, 1) := by decide +kernel
theorem dX4_instrument_1 : decode cX4_instrument 1 = .ok (.iload_n 1, 1) := by decide +kernel
theorem dX4_instrument_2 : decode cX4_instrument 2 = .ok (.invokevirtual 96, 3) := by decide +kernel
theorem dX4_instrument_5 : decode cX4_instrument 5 = .ok (.ifCond .ne 5, 3) := by decide +kernel
theorem dX4_instrument_8 : decode cX4_instrument 8 = .ok (.iconst (-1), 1) := by decide +kernel
theorem dX4_instrument_9 : decode cX4_instrument 9 = .ok (.ireturn, 1) := by decide +kernel
theorem dX4_instrument_10 : decode cX4_instrument 10 = .ok (.iload_n 2, 1) := by decide +kernel
theorem dX4_instrument_11 : decode cX4_instrument 11 = .ok (.tableswitch 92 0 5 #[37, 47, 57, 67, 73, 82], 37) := by decide +kernel
theorem dX4_instrument_48 : decode cX4_instrument 48 = .ok (.aload_n 0, 1) := by decide +kernel
theorem dX4_instrument_49 : decode cX4_instrument 49 = .ok (.getfield 19, 3) := by decide +kernel
theorem dX4_instrument_52 : decode cX4_instrument 52 = .ok (.getfield 100, 3) := by decide +kernel
theorem dX4_instrument_55 : decode cX4_instrument 55 = .ok (.iload_n 1, 1) := by decide +kernel
theorem dX4_instrument_56 : decode cX4_instrument 56 = .ok (.iaload, 1) := by decide +kernel
theorem dX4_instrument_57 : decode cX4_instrument 57 = .ok (.ireturn, 1) := by decide +kernel
theorem dX4_instrument_58 : decode cX4_instrument 58 = .ok (.aload_n 0, 1) := by decide +kernel
theorem dX4_instrument_59 : decode cX4_instrument 59 = .ok (.getfield 19, 3) := by decide +kernel
theorem dX4_instrument_62 : decode cX4_instrument 62 = .ok (.getfield 103, 3) := by decide +kernel
theorem dX4_instrument_65 : decode cX4_instrument 65 = .ok (.iload_n 1, 1) := by decide +kernel
theorem dX4_instrument_66 : decode cX4_instrument 66 = .ok (.iaload, 1) := by decide +kernel
theorem dX4_instrument_67 : decode cX4_instrument 67 = .ok (.ireturn, 1) := by decide +kernel
theorem dX4_instrument_68 : decode cX4_instrument 68 = .ok (.aload_n 0, 1) := by decide +kernel
theorem dX4_instrument_69 : decode cX4_instrument 69 = .ok (.getfield 19, 3) := by decide +kernel
theorem dX4_instrument_72 : decode cX4_instrument 72 = .ok (.getfield 106, 3) := by decide +kernel
theorem dX4_instrument_75 : decode cX4_instrument 75 = .ok (.iload_n 1, 1) := by decide +kernel
theorem dX4_instrument_76 : decode cX4_instrument 76 = .ok (.iaload, 1) := by decide +kernel
theorem dX4_instrument_77 : decode cX4_instrument 77 = .ok (.ireturn, 1) := by decide +kernel
theorem dX4_instrument_78 : decode cX4_instrument 78 = .ok (.aload_n 0, 1) := by decide +kernel
theorem dX4_instrument_79 : decode cX4_instrument 79 = .ok (.iload_n 1, 1) := by decide +kernel
theorem dX4_instrument_80 : decode cX4_instrument 80 = .ok (.invokevirtual 109, 3) := by decide +kernel
theorem dX4_instrument_83 : decode cX4_instrument 83 = .ok (.ireturn, 1) := by decide +kernel
theorem dX4_instrument_84 : decode cX4_instrument 84 = .ok (.aload_n 0, 1) := by decide +kernel
theorem dX4_instrument_85 : decode cX4_instrument 85 = .ok (.getfield 113, 3) := by decide +kernel
theorem dX4_instrument_88 : decode cX4_instrument 88 = .ok (.iload_n 1, 1) := by decide +kernel
theorem dX4_instrument_89 : decode cX4_instrument 89 = .ok (.ishr, 1) := by decide +kernel
theorem dX4_instrument_90 : decode cX4_instrument 90 = .ok (.iconst 1, 1) := by decide +kernel
theorem dX4_instrument_91 : decode cX4_instrument 91 = .ok (.iand, 1) := by decide +kernel
theorem dX4_instrument_92 : decode cX4_instrument 92 = .ok (.ireturn, 1) := by decide +kernel
theorem dX4_instrument_93 : decode cX4_instrument 93 = .ok (.aload_n 0, 1) := by decide +kernel
theorem dX4_instrument_94 : decode cX4_instrument 94 = .ok (.getfield 30, 3) := by decide +kernel
theorem dX4_instrument_97 : decode cX4_instrument 97 = .ok (.getfield 116, 3) := by decide +kernel
theorem dX4_instrument_100 : decode cX4_instrument 100 = .ok (.iload_n 1, 1) := by decide +kernel
theorem dX4_instrument_101 : decode cX4_instrument 101 = .ok (.iaload, 1) := by decide +kernel
theorem dX4_instrument_102 : decode cX4_instrument 102 = .ok (.ireturn, 1) := by decide +kernel
theorem dX4_instrument_103 : decode cX4_instrument 103 = .ok (.iconst (-1), 1) := by decide +kernel
theorem dX4_instrument_104 : decode cX4_instrument 104 = .ok (.ireturn, 1) := by decide +kernel
theorem dX4_seat_0 : decode cX4_seat 0 = .ok (.aload_n 0, 1) := by decide +kernel
theorem dX4_seat_1 : decode cX4_seat 1 = .ok (.iload_n 1, 1) := by decide +kernel
theorem dX4_seat_2 : decode cX4_seat 2 = .ok (.invokevirtual 96, 3) := by decide +kernel
theorem dX4_seat_5 : decode cX4_seat 5 = .ok (.ifCond .eq 12, 3) := by decide +kernel
theorem dX4_seat_8 : decode cX4_seat 8 = .ok (.aload_n 0, 1) := by decide +kernel
theorem dX4_seat_9 : decode cX4_seat 9 = .ok (.getfield 23, 3) := by decide +kernel
theorem dX4_seat_12 : decode cX4_seat 12 = .ok (.iload_n 1, 1) := by decide +kernel
theorem dX4_seat_13 : decode cX4_seat 13 = .ok (.iaload, 1) := by decide +kernel
theorem dX4_seat_14 : decode cX4_seat 14 = .ok (.goto 4, 3) := by decide +kernel
theorem dX4_seat_17 : decode cX4_seat 17 = .ok (.iconst (-1), 1) := by decide +kernel
theorem dX4_seat_18 : decode cX4_seat 18 = .ok (.ireturn, 1) := by decide +kernel
theorem dX4_asked_0 : decode cX4_asked 0 = .ok (.aload_n 0, 1) := by decide +kernel
theorem dX4_asked_1 : decode cX4_asked 1 = .ok (.iload_n 1, 1) := by decide +kernel
theorem dX4_asked_2 : decode cX4_asked 2 = .ok (.invokevirtual 119, 3) := by decide +kernel
theorem dX4_asked_5 : decode cX4_asked 5 = .ok (.ifCond .eq 15, 3) := by decide +kernel
theorem dX4_asked_8 : decode cX4_asked 8 = .ok (.aload_n 0, 1) := by decide +kernel
theorem dX4_asked_9 : decode cX4_asked 9 = .ok (.getfield 19, 3) := by decide +kernel
theorem dX4_asked_12 : decode cX4_asked 12 = .ok (.getfield 122, 3) := by decide +kernel
theorem dX4_asked_15 : decode cX4_asked 15 = .ok (.iload_n 1, 1) := by decide +kernel
theorem dX4_asked_16 : decode cX4_asked 16 = .ok (.iaload, 1) := by decide +kernel
theorem dX4_asked_17 : decode cX4_asked 17 = .ok (.goto 4, 3) := by decide +kernel
theorem dX4_asked_20 : decode cX4_asked 20 = .ok (.iconst (-1), 1) := by decide +kernel
theorem dX4_asked_21 : decode cX4_asked 21 = .ok (.ireturn, 1) := by decide +kernel
theorem dX4_plays_0 : decode cX4_plays 0 = .ok (.aload_n 0, 1) := by decide +kernel
theorem dX4_plays_1 : decode cX4_plays 1 = .ok (.iload_n 1, 1) := by decide +kernel
theorem dX4_plays_2 : decode cX4_plays 2 = .ok (.invokevirtual 119, 3) := by decide +kernel
theorem dX4_plays_5 : decode cX4_plays 5 = .ok (.ifCond .eq 15, 3) := by decide +kernel
theorem dX4_plays_8 : decode cX4_plays 8 = .ok (.aload_n 0, 1) := by decide +kernel
theorem dX4_plays_9 : decode cX4_plays 9 = .ok (.getfield 30, 3) := by decide +kernel
theorem dX4_plays_12 : decode cX4_plays 12 = .ok (.getfield 125, 3) := by decide +kernel
theorem dX4_plays_15 : decode cX4_plays 15 = .ok (.iload_n 1, 1) := by decide +kernel
theorem dX4_plays_16 : decode cX4_plays 16 = .ok (.iaload, 1) := by decide +kernel
theorem dX4_plays_17 : decode cX4_plays 17 = .ok (.goto 4, 3) := by decide +kernel
theorem dX4_plays_20 : decode cX4_plays 20 = .ok (.iconst (-1), 1) := by decide +kernel
theorem dX4_plays_21 : decode cX4_plays 21 = .ok (.ireturn, 1) := by decide +kernel
theorem dX4_missing_0 : decode cX4_missing 0 = .ok (.aload_n 0, 1) := by decide +kernel
theorem dX4_missing_1 : decode cX4_missing 1 = .ok (.iload_n 1, 1) := by decide +kernel
theorem dX4_missing_2 : decode cX4_missing 2 = .ok (.invokevirtual 119, 3) := by decide +kernel
theorem dX4_missing_5 : decode cX4_missing 5 = .ok (.ifCond .eq 11, 3) := by decide +kernel
theorem dX4_missing_8 : decode cX4_missing 8 = .ok (.aload_n 0, 1) := by decide +kernel
theorem dX4_missing_9 : decode cX4_missing 9 = .ok (.iload_n 1, 1) := by decide +kernel
theorem dX4_missing_10 : decode cX4_missing 10 = .ok (.invokevirtual 128, 3) := by decide +kernel
theorem dX4_missing_13 : decode cX4_missing 13 = .ok (.goto 4, 3) := by decide +kernel
theorem dX4_missing_16 : decode cX4_missing 16 = .ok (.iconst (-1), 1) := by decide +kernel
theorem dX4_missing_17 : decode cX4_missing 17 = .ok (.ireturn, 1) := by decide +kernel
theorem dX4_first_0 : decode cX4_first 0 = .ok (.iconst 0, 1) := by decide +kernel
theorem dX4_first_1 : decode cX4_first 1 = .ok (.istore_n 1, 1) := by decide +kernel
theorem dX4_first_2 : decode cX4_first 2 = .ok (.iload_n 1, 1) := by decide +kernel
theorem dX4_first_3 : decode cX4_first 3 = .ok (.aload_n 0, 1) := by decide +kernel
theorem dX4_first_4 : decode cX4_first 4 = .ok (.getfield 19, 3) := by decide +kernel
theorem dX4_first_7 : decode cX4_first 7 = .ok (.getfield 131, 3) := by decide +kernel
theorem dX4_first_10 : decode cX4_first 10 = .ok (.if_icmp .ge 19, 3) := by decide +kernel
theorem dX4_first_13 : decode cX4_first 13 = .ok (.aload_n 0, 1) := by decide +kernel
theorem dX4_first_14 : decode cX4_first 14 = .ok (.iload_n 1, 1) := by decide +kernel
theorem dX4_first_15 : decode cX4_first 15 = .ok (.invokevirtual 128, 3) := by decide +kernel
theorem dX4_first_18 : decode cX4_first 18 = .ok (.ifCond .eq 5, 3) := by decide +kernel
theorem dX4_first_21 : decode cX4_first 21 = .ok (.iload_n 1, 1) := by decide +kernel
theorem dX4_first_22 : decode cX4_first 22 = .ok (.ireturn, 1) := by decide +kernel
theorem dX4_first_23 : decode cX4_first 23 = .ok (.iinc 1 1, 3) := by decide +kernel
theorem dX4_first_26 : decode cX4_first 26 = .ok (.goto (-24), 3) := by decide +kernel
theorem dX4_first_29 : decode cX4_first 29 = .ok (.bipush (-4), 2) := by decide +kernel
theorem dX4_first_31 : decode cX4_first 31 = .ok (.ireturn, 1) := by decide +kernel
theorem dX4_notes_0 : decode cX4_notes 0 = .ok (.iload_n 1, 1) := by decide +kernel
theorem dX4_notes_1 : decode cX4_notes 1 = .ok (.lookupswitch 43 #[(0, 27), (1, 35)], 27) := by decide +kernel
theorem dX4_notes_28 : decode cX4_notes 28 = .ok (.aload_n 0, 1) := by decide +kernel
theorem dX4_notes_29 : decode cX4_notes 29 = .ok (.getfield 30, 3) := by decide +kernel
theorem dX4_notes_32 : decode cX4_notes 32 = .ok (.getfield 134, 3) := by decide +kernel
theorem dX4_notes_35 : decode cX4_notes 35 = .ok (.ireturn, 1) := by decide +kernel
theorem dX4_notes_36 : decode cX4_notes 36 = .ok (.aload_n 0, 1) := by decide +kernel
theorem dX4_notes_37 : decode cX4_notes 37 = .ok (.getfield 30, 3) := by decide +kernel
theorem dX4_notes_40 : decode cX4_notes 40 = .ok (.getfield 137, 3) := by decide +kernel
theorem dX4_notes_43 : decode cX4_notes 43 = .ok (.ireturn, 1) := by decide +kernel
theorem dX4_notes_44 : decode cX4_notes 44 = .ok (.iconst (-1), 1) := by decide +kernel
theorem dX4_notes_45 : decode cX4_notes 45 = .ok (.ireturn, 1) := by decide +kernel
theorem dX4_change_0 : decode cX4_change 0 = .ok (.aload_n 0, 1) := by decide +kernel
theorem dX4_change_1 : decode cX4_change 1 = .ok (.iload_n 1, 1) := by decide +kernel
theorem dX4_change_2 : decode cX4_change 2 = .ok (.invokevirtual 96, 3) := by decide +kernel
theorem dX4_change_5 : decode cX4_change 5 = .ok (.ifCond .eq 16, 3) := by decide +kernel
theorem dX4_change_8 : decode cX4_change 8 = .ok (.aload_n 0, 1) := by decide +kernel
theorem dX4_change_9 : decode cX4_change 9 = .ok (.iload_n 2, 1) := by decide +kernel
theorem dX4_change_10 : decode cX4_change 10 = .ok (.invokevirtual 96, 3) := by decide +kernel
theorem dX4_change_13 : decode cX4_change 13 = .ok (.ifCond .eq 8, 3) := by decide +kernel
theorem dX4_change_16 : decode cX4_change 16 = .ok (.iload_n 1, 1) := by decide +kernel
theorem dX4_change_17 : decode cX4_change 17 = .ok (.iload_n 2, 1) := by decide +kernel
theorem dX4_change_18 : decode cX4_change 18 = .ok (.if_icmp .ne 5, 3) := by decide +kernel
theorem dX4_change_21 : decode cX4_change 21 = .ok (.iconst (-1), 1) := by decide +kernel
theorem dX4_change_22 : decode cX4_change 22 = .ok (.ireturn, 1) := by decide +kernel
theorem dX4_change_23 : decode cX4_change 23 = .ok (.aload_n 0, 1) := by decide +kernel
theorem dX4_change_24 : decode cX4_change 24 = .ok (.bipush 64, 2) := by decide +kernel
theorem dX4_change_26 : decode cX4_change 26 = .ok (.bipush 8, 2) := by decide +kernel
theorem dX4_change_28 : decode cX4_change 28 = .ok (.iload_n 1, 1) := by decide +kernel
theorem dX4_change_29 : decode cX4_change 29 = .ok (.imul, 1) := by decide +kernel
theorem dX4_change_30 : decode cX4_change 30 = .ok (.iadd, 1) := by decide +kernel
theorem dX4_change_31 : decode cX4_change 31 = .ok (.iload_n 2, 1) := by decide +kernel
theorem dX4_change_32 : decode cX4_change 32 = .ok (.iadd, 1) := by decide +kernel
theorem dX4_change_33 : decode cX4_change 33 = .ok (.invokevirtual 140, 3) := by decide +kernel
theorem dX4_change_36 : decode cX4_change 36 = .ok (.aload_n 0, 1) := by decide +kernel
theorem dX4_change_37 : decode cX4_change 37 = .ok (.getfield 23, 3) := by decide +kernel
theorem dX4_change_40 : decode cX4_change 40 = .ok (.iload_n 1, 1) := by decide +kernel
theorem dX4_change_41 : decode cX4_change 41 = .ok (.iload_n 2, 1) := by decide +kernel
theorem dX4_change_42 : decode cX4_change 42 = .ok (.invokestatic 144, 3) := by decide +kernel
theorem dX4_change_45 : decode cX4_change 45 = .ok (.aload_n 0, 1) := by decide +kernel
theorem dX4_change_46 : decode cX4_change 46 = .ok (.invokevirtual 148, 3) := by decide +kernel
theorem dX4_change_49 : decode cX4_change 49 = .ok (.aload_n 0, 1) := by decide +kernel
theorem dX4_change_50 : decode cX4_change 50 = .ok (.getfield 23, 3) := by decide +kernel
theorem dX4_change_53 : decode cX4_change 53 = .ok (.iload_n 1, 1) := by decide +kernel
theorem dX4_change_54 : decode cX4_change 54 = .ok (.iaload, 1) := by decide +kernel
theorem dX4_change_55 : decode cX4_change 55 = .ok (.ireturn, 1) := by decide +kernel
theorem dX4_bribe_0 : decode cX4_bribe 0 = .ok (.aload_n 0, 1) := by decide +kernel
theorem dX4_bribe_1 : decode cX4_bribe 1 = .ok (.iload_n 1, 1) := by decide +kernel
theorem dX4_bribe_2 : decode cX4_bribe 2 = .ok (.invokevirtual 96, 3) := by decide +kernel
theorem dX4_bribe_5 : decode cX4_bribe 5 = .ok (.ifCond .ne 5, 3) := by decide +kernel
theorem dX4_bribe_8 : decode cX4_bribe 8 = .ok (.iconst (-1), 1) := by decide +kernel
theorem dX4_bribe_9 : decode cX4_bribe 9 = .ok (.ireturn, 1) := by decide +kernel
theorem dX4_bribe_10 : decode cX4_bribe 10 = .ok (.aload_n 0, 1) := by decide +kernel
theorem dX4_bribe_11 : decode cX4_bribe 11 = .ok (.iload_n 1, 1) := by decide +kernel
theorem dX4_bribe_12 : decode cX4_bribe 12 = .ok (.invokevirtual 140, 3) := by decide +kernel
theorem dX4_bribe_15 : decode cX4_bribe 15 = .ok (.aload_n 0, 1) := by decide +kernel
theorem dX4_bribe_16 : decode cX4_bribe 16 = .ok (.dup, 1) := by decide +kernel
theorem dX4_bribe_17 : decode cX4_bribe 17 = .ok (.getfield 113, 3) := by decide +kernel
theorem dX4_bribe_20 : decode cX4_bribe 20 = .ok (.iconst 1, 1) := by decide +kernel
theorem dX4_bribe_21 : decode cX4_bribe 21 = .ok (.iload_n 1, 1) := by decide +kernel
theorem dX4_bribe_22 : decode cX4_bribe 22 = .ok (.ishl, 1) := by decide +kernel
theorem dX4_bribe_23 : decode cX4_bribe 23 = .ok (.ixor, 1) := by decide +kernel
theorem dX4_bribe_24 : decode cX4_bribe 24 = .ok (.putfield 113, 3) := by decide +kernel
theorem dX4_bribe_27 : decode cX4_bribe 27 = .ok (.aload_n 0, 1) := by decide +kernel
theorem dX4_bribe_28 : decode cX4_bribe 28 = .ok (.invokevirtual 148, 3) := by decide +kernel
theorem dX4_bribe_31 : decode cX4_bribe 31 = .ok (.aload_n 0, 1) := by decide +kernel
theorem dX4_bribe_32 : decode cX4_bribe 32 = .ok (.aload_n 0, 1) := by decide +kernel
theorem dX4_bribe_33 : decode cX4_bribe 33 = .ok (.getfield 113, 3) := by decide +kernel
theorem dX4_bribe_36 : decode cX4_bribe 36 = .ok (.invokevirtual 151, 3) := by decide +kernel
theorem dX4_bribe_39 : decode cX4_bribe 39 = .ok (.ireturn, 1) := by decide +kernel
theorem dX4_undo_0 : decode cX4_undo 0 = .ok (.aload_n 0, 1) := by decide +kernel
theorem dX4_undo_1 : decode cX4_undo 1 = .ok (.getfield 154, 3) := by decide +kernel
theorem dX4_undo_4 : decode cX4_undo 4 = .ok (.iconst 1, 1) := by decide +kernel
theorem dX4_undo_5 : decode cX4_undo 5 = .ok (.if_icmp .ge 6, 3) := by decide +kernel
theorem dX4_undo_8 : decode cX4_undo 8 = .ok (.bipush (-2), 2) := by decide +kernel
theorem dX4_undo_10 : decode cX4_undo 10 = .ok (.ireturn, 1) := by decide +kernel
theorem dX4_undo_11 : decode cX4_undo 11 = .ok (.aload_n 0, 1) := by decide +kernel
theorem dX4_undo_12 : decode cX4_undo 12 = .ok (.dup, 1) := by decide +kernel
theorem dX4_undo_13 : decode cX4_undo 13 = .ok (.getfield 154, 3) := by decide +kernel
theorem dX4_undo_16 : decode cX4_undo 16 = .ok (.iconst 1, 1) := by decide +kernel
theorem dX4_undo_17 : decode cX4_undo 17 = .ok (.isub, 1) := by decide +kernel
theorem dX4_undo_18 : decode cX4_undo 18 = .ok (.putfield 154, 3) := by decide +kernel
theorem dX4_undo_21 : decode cX4_undo 21 = .ok (.aload_n 0, 1) := by decide +kernel
theorem dX4_undo_22 : decode cX4_undo 22 = .ok (.getfield 47, 3) := by decide +kernel
theorem dX4_undo_25 : decode cX4_undo 25 = .ok (.aload_n 0, 1) := by decide +kernel
theorem dX4_undo_26 : decode cX4_undo 26 = .ok (.getfield 154, 3) := by decide +kernel
theorem dX4_undo_29 : decode cX4_undo 29 = .ok (.iaload, 1) := by decide +kernel
theorem dX4_undo_30 : decode cX4_undo 30 = .ok (.istore_n 1, 1) := by decide +kernel
theorem dX4_undo_31 : decode cX4_undo 31 = .ok (.iload_n 1, 1) := by decide +kernel
theorem dX4_undo_32 : decode cX4_undo 32 = .ok (.bipush 64, 2) := by decide +kernel
theorem dX4_undo_34 : decode cX4_undo 34 = .ok (.if_icmp .lt 23, 3) := by decide +kernel
theorem dX4_undo_37 : decode cX4_undo 37 = .ok (.aload_n 0, 1) := by decide +kernel
theorem dX4_undo_38 : decode cX4_undo 38 = .ok (.getfield 23, 3) := by decide +kernel
theorem dX4_undo_41 : decode cX4_undo 41 = .ok (.iload_n 1, 1) := by decide +kernel
theorem dX4_undo_42 : decode cX4_undo 42 = .ok (.iconst 3, 1) := by decide +kernel
theorem dX4_undo_43 : decode cX4_undo 43 = .ok (.ishr, 1) := by decide +kernel
theorem dX4_undo_44 : decode cX4_undo 44 = .ok (.bipush 7, 2) := by decide +kernel
theorem dX4_undo_46 : decode cX4_undo 46 = .ok (.iand, 1) := by decide +kernel
theorem dX4_undo_47 : decode cX4_undo 47 = .ok (.iload_n 1, 1) := by decide +kernel
theorem dX4_undo_48 : decode cX4_undo 48 = .ok (.bipush 7, 2) := by decide +kernel
theorem dX4_undo_50 : decode cX4_undo 50 = .ok (.iand, 1) := by decide +kernel
theorem dX4_undo_51 : decode cX4_undo 51 = .ok (.invokestatic 144, 3) := by decide +kernel
theorem dX4_undo_54 : decode cX4_undo 54 = .ok (.goto 15, 3) := by decide +kernel
theorem dX4_undo_57 : decode cX4_undo 57 = .ok (.aload_n 0, 1) := by decide +kernel
theorem dX4_undo_58 : decode cX4_undo 58 = .ok (.dup, 1) := by decide +kernel
theorem dX4_undo_59 : decode cX4_undo 59 = .ok (.getfield 113, 3) := by decide +kernel
theorem dX4_undo_62 : decode cX4_undo 62 = .ok (.iconst 1, 1) := by decide +kernel
theorem dX4_undo_63 : decode cX4_undo 63 = .ok (.iload_n 1, 1) := by decide +kernel
theorem dX4_undo_64 : decode cX4_undo 64 = .ok (.ishl, 1) := by decide +kernel
theorem dX4_undo_65 : decode cX4_undo 65 = .ok (.ixor, 1) := by decide +kernel
theorem dX4_undo_66 : decode cX4_undo 66 = .ok (.putfield 113, 3) := by decide +kernel
theorem dX4_undo_69 : decode cX4_undo 69 = .ok (.aload_n 0, 1) := by decide +kernel
theorem dX4_undo_70 : decode cX4_undo 70 = .ok (.invokevirtual 148, 3) := by decide +kernel
theorem dX4_undo_73 : decode cX4_undo 73 = .ok (.aload_n 0, 1) := by decide +kernel
theorem dX4_undo_74 : decode cX4_undo 74 = .ok (.getfield 154, 3) := by decide +kernel
theorem dX4_undo_77 : decode cX4_undo 77 = .ok (.ireturn, 1) := by decide +kernel
theorem dX4_best_0 : decode cX4_best 0 = .ok (.iload_n 1, 1) := by decide +kernel
theorem dX4_best_1 : decode cX4_best 1 = .ok (.iconst (-1), 1) := by decide +kernel
theorem dX4_best_2 : decode cX4_best 2 = .ok (.if_icmp .ne 11, 3) := by decide +kernel
theorem dX4_best_5 : decode cX4_best 5 = .ok (.aload_n 0, 1) := by decide +kernel
theorem dX4_best_6 : decode cX4_best 6 = .ok (.invokevirtual 157, 3) := by decide +kernel
theorem dX4_best_9 : decode cX4_best 9 = .ok (.getfield 161, 3) := by decide +kernel
theorem dX4_best_12 : decode cX4_best 12 = .ok (.ireturn, 1) := by decide +kernel
theorem dX4_best_13 : decode cX4_best 13 = .ok (.aload_n 0, 1) := by decide +kernel
theorem dX4_best_14 : decode cX4_best 14 = .ok (.iload_n 1, 1) := by decide +kernel
theorem dX4_best_15 : decode cX4_best 15 = .ok (.invokevirtual 96, 3) := by decide +kernel
theorem dX4_best_18 : decode cX4_best 18 = .ok (.ifCond .eq 15, 3) := by decide +kernel
theorem dX4_best_21 : decode cX4_best 21 = .ok (.aload_n 0, 1) := by decide +kernel
theorem dX4_best_22 : decode cX4_best 22 = .ok (.invokevirtual 157, 3) := by decide +kernel
theorem dX4_best_25 : decode cX4_best 25 = .ok (.getfield 164, 3) := by decide +kernel
theorem dX4_best_28 : decode cX4_best 28 = .ok (.iload_n 1, 1) := by decide +kernel
theorem dX4_best_29 : decode cX4_best 29 = .ok (.iaload, 1) := by decide +kernel
theorem dX4_best_30 : decode cX4_best 30 = .ok (.goto 4, 3) := by decide +kernel
theorem dX4_best_33 : decode cX4_best 33 = .ok (.iconst (-1), 1) := by decide +kernel
theorem dX4_best_34 : decode cX4_best 34 = .ok (.ireturn, 1) := by decide +kernel
theorem dX4_changes_0 : decode cX4_changes 0 = .ok (.aload_n 0, 1) := by decide +kernel
theorem dX4_changes_1 : decode cX4_changes 1 = .ok (.invokevirtual 157, 3) := by decide +kernel
theorem dX4_changes_4 : decode cX4_changes 4 = .ok (.getfield 167, 3) := by decide +kernel
theorem dX4_changes_7 : decode cX4_changes 7 = .ok (.ireturn, 1) := by decide +kernel
theorem dX4_help_0 : decode cX4_help 0 = .ok (.iload_n 1, 1) := by decide +kernel
theorem dX4_help_1 : decode cX4_help 1 = .ok (.ifCond .lt 8, 3) := by decide +kernel
theorem dX4_help_4 : decode cX4_help 4 = .ok (.iload_n 1, 1) := by decide +kernel
theorem dX4_help_5 : decode cX4_help 5 = .ok (.iconst 1, 1) := by decide +kernel
theorem dX4_help_6 : decode cX4_help 6 = .ok (.if_icmp .le 5, 3) := by decide +kernel
theorem dX4_help_9 : decode cX4_help 9 = .ok (.iconst (-1), 1) := by decide +kernel
theorem dX4_help_10 : decode cX4_help 10 = .ok (.ireturn, 1) := by decide +kernel
theorem dX4_help_11 : decode cX4_help 11 = .ok (.bipush (-4), 2) := by decide +kernel
theorem dX4_help_13 : decode cX4_help 13 = .ok (.istore_n 2, 1) := by decide +kernel
theorem dX4_help_14 : decode cX4_help 14 = .ok (.aload_n 0, 1) := by decide +kernel
theorem dX4_help_15 : decode cX4_help 15 = .ok (.getfield 30, 3) := by decide +kernel
theorem dX4_help_18 : decode cX4_help 18 = .ok (.getfield 134, 3) := by decide +kernel
theorem dX4_help_21 : decode cX4_help 21 = .ok (.istore_n 3, 1) := by decide +kernel
theorem dX4_help_22 : decode cX4_help 22 = .ok (.aload_n 0, 1) := by decide +kernel
theorem dX4_help_23 : decode cX4_help 23 = .ok (.getfield 23, 3) := by decide +kernel
theorem dX4_help_26 : decode cX4_help 26 = .ok (.iconst 0, 1) := by decide +kernel
theorem dX4_help_27 : decode cX4_help 27 = .ok (.aload_n 0, 1) := by decide +kernel
theorem dX4_help_28 : decode cX4_help 28 = .ok (.getfield 41, 3) := by decide +kernel
theorem dX4_help_31 : decode cX4_help 31 = .ok (.iconst 0, 1) := by decide +kernel
theorem dX4_help_32 : decode cX4_help 32 = .ok (.aload_n 0, 1) := by decide +kernel
theorem dX4_help_33 : decode cX4_help 33 = .ok (.getfield 23, 3) := by decide +kernel
theorem dX4_help_36 : decode cX4_help 36 = .ok (.arraylength, 1) := by decide +kernel
theorem dX4_help_37 : decode cX4_help 37 = .ok (.invokestatic 170, 3) := by decide +kernel
theorem dX4_help_40 : decode cX4_help 40 = .ok (.iconst 0, 1) := by decide +kernel
theorem dX4_help_41 : decode cX4_help 41 = .ok (.istore 4, 2) := by decide +kernel
theorem dX4_help_43 : decode cX4_help 43 = .ok (.iload 4, 2) := by decide +kernel
theorem dX4_help_45 : decode cX4_help 45 = .ok (.aload_n 0, 1) := by decide +kernel
theorem dX4_help_46 : decode cX4_help 46 = .ok (.getfield 19, 3) := by decide +kernel
theorem dX4_help_49 : decode cX4_help 49 = .ok (.getfield 93, 3) := by decide +kernel
theorem dX4_help_52 : decode cX4_help 52 = .ok (.if_icmp .ge 111, 3) := by decide +kernel
theorem dX4_help_55 : decode cX4_help 55 = .ok (.iload 4, 2) := by decide +kernel
theorem dX4_help_57 : decode cX4_help 57 = .ok (.iconst 1, 1) := by decide +kernel
theorem dX4_help_58 : decode cX4_help 58 = .ok (.iadd, 1) := by decide +kernel
theorem dX4_help_59 : decode cX4_help 59 = .ok (.istore 5, 2) := by decide +kernel
theorem dX4_help_61 : decode cX4_help 61 = .ok (.iload 5, 2) := by decide +kernel
theorem dX4_help_63 : decode cX4_help 63 = .ok (.aload_n 0, 1) := by decide +kernel
theorem dX4_help_64 : decode cX4_help 64 = .ok (.getfield 19, 3) := by decide +kernel
theorem dX4_help_67 : decode cX4_help 67 = .ok (.getfield 93, 3) := by decide +kernel
theorem dX4_help_70 : decode cX4_help 70 = .ok (.if_icmp .ge 87, 3) := by decide +kernel
theorem dX4_help_73 : decode cX4_help 73 = .ok (.aload_n 0, 1) := by decide +kernel
theorem dX4_help_74 : decode cX4_help 74 = .ok (.getfield 41, 3) := by decide +kernel
theorem dX4_help_77 : decode cX4_help 77 = .ok (.iload 4, 2) := by decide +kernel
theorem dX4_help_79 : decode cX4_help 79 = .ok (.iload 5, 2) := by decide +kernel
theorem dX4_help_81 : decode cX4_help 81 = .ok (.invokestatic 144, 3) := by decide +kernel
theorem dX4_help_84 : decode cX4_help 84 = .ok (.aload_n 0, 1) := by decide +kernel
theorem dX4_help_85 : decode cX4_help 85 = .ok (.getfield 44, 3) := by decide +kernel
theorem dX4_help_88 : decode cX4_help 88 = .ok (.aload_n 0, 1) := by decide +kernel
theorem dX4_help_89 : decode cX4_help 89 = .ok (.getfield 19, 3) := by decide +kernel
theorem dX4_help_92 : decode cX4_help 92 = .ok (.aload_n 0, 1) := by decide +kernel
theorem dX4_help_93 : decode cX4_help 93 = .ok (.getfield 41, 3) := by decide +kernel
theorem dX4_help_96 : decode cX4_help 96 = .ok (.aload_n 0, 1) := by decide +kernel
theorem dX4_help_97 : decode cX4_help 97 = .ok (.getfield 19, 3) := by decide +kernel
theorem dX4_help_100 : decode cX4_help 100 = .ok (.getfield 176, 3) := by decide +kernel
theorem dX4_help_103 : decode cX4_help 103 = .ok (.aload_n 0, 1) := by decide +kernel
theorem dX4_help_104 : decode cX4_help 104 = .ok (.getfield 113, 3) := by decide +kernel
theorem dX4_help_107 : decode cX4_help 107 = .ok (.bipush 127, 2) := by decide +kernel
theorem dX4_help_109 : decode cX4_help 109 = .ok (.invokevirtual 179, 3) := by decide +kernel
theorem dX4_help_112 : decode cX4_help 112 = .ok (.aload_n 0, 1) := by decide +kernel
theorem dX4_help_113 : decode cX4_help 113 = .ok (.getfield 41, 3) := by decide +kernel
theorem dX4_help_116 : decode cX4_help 116 = .ok (.iload 4, 2) := by decide +kernel
theorem dX4_help_118 : decode cX4_help 118 = .ok (.iload 5, 2) := by decide +kernel
theorem dX4_help_120 : decode cX4_help 120 = .ok (.invokestatic 144, 3) := by decide +kernel
theorem dX4_help_123 : decode cX4_help 123 = .ok (.aload_n 0, 1) := by decide +kernel
theorem dX4_help_124 : decode cX4_help 124 = .ok (.getfield 44, 3) := by decide +kernel
theorem dX4_help_127 : decode cX4_help 127 = .ok (.getfield 134, 3) := by decide +kernel
theorem dX4_help_130 : decode cX4_help 130 = .ok (.iload_n 3, 1) := by decide +kernel
theorem dX4_help_131 : decode cX4_help 131 = .ok (.if_icmp .le 20, 3) := by decide +kernel
theorem dX4_help_134 : decode cX4_help 134 = .ok (.aload_n 0, 1) := by decide +kernel
theorem dX4_help_135 : decode cX4_help 135 = .ok (.getfield 44, 3) := by decide +kernel
theorem dX4_help_138 : decode cX4_help 138 = .ok (.getfield 134, 3) := by decide +kernel
theorem dX4_help_141 : decode cX4_help 141 = .ok (.istore_n 3, 1) := by decide +kernel
theorem dX4_help_142 : decode cX4_help 142 = .ok (.bipush 8, 2) := by decide +kernel
theorem dX4_help_144 : decode cX4_help 144 = .ok (.iload 4, 2) := by decide +kernel
theorem dX4_help_146 : decode cX4_help 146 = .ok (.imul, 1) := by decide +kernel
theorem dX4_help_147 : decode cX4_help 147 = .ok (.iload 5, 2) := by decide +kernel
theorem dX4_help_149 : decode cX4_help 149 = .ok (.iadd, 1) := by decide +kernel
theorem dX4_help_150 : decode cX4_help 150 = .ok (.istore_n 2, 1) := by decide +kernel
theorem dX4_help_151 : decode cX4_help 151 = .ok (.iinc 5 1, 3) := by decide +kernel
theorem dX4_help_154 : decode cX4_help 154 = .ok (.goto (-93), 3) := by decide +kernel
theorem dX4_help_157 : decode cX4_help 157 = .ok (.iinc 4 1, 3) := by decide +kernel
theorem dX4_help_160 : decode cX4_help 160 = .ok (.goto (-117), 3) := by decide +kernel
theorem dX4_help_163 : decode cX4_help 163 = .ok (.iload_n 2, 1) := by decide +kernel
theorem dX4_help_164 : decode cX4_help 164 = .ok (.bipush (-4), 2) := by decide +kernel
theorem dX4_help_166 : decode cX4_help 166 = .ok (.if_icmp .eq 7, 3) := by decide +kernel
theorem dX4_help_169 : decode cX4_help 169 = .ok (.iload_n 1, 1) := by decide +kernel
theorem dX4_help_170 : decode cX4_help 170 = .ok (.ifCond .ne 7, 3) := by decide +kernel
theorem dX4_help_173 : decode cX4_help 173 = .ok (.iload_n 2, 1) := by decide +kernel
theorem dX4_help_174 : decode cX4_help 174 = .ok (.goto 4, 3) := by decide +kernel
theorem dX4_help_177 : decode cX4_help 177 = .ok (.iload_n 3, 1) := by decide +kernel
theorem dX4_help_178 : decode cX4_help 178 = .ok (.ireturn, 1) := by decide +kernel
theorem dX4_bribes_0 : decode cX4_bribes 0 = .ok (.iload_n 1, 1) := by decide +kernel
theorem dX4_bribes_1 : decode cX4_bribes 1 = .ok (.ifCond .lt 8, 3) := by decide +kernel
theorem dX4_bribes_4 : decode cX4_bribes 4 = .ok (.iload_n 1, 1) := by decide +kernel
theorem dX4_bribes_5 : decode cX4_bribes 5 = .ok (.iconst 1, 1) := by decide +kernel
theorem dX4_bribes_6 : decode cX4_bribes 6 = .ok (.if_icmp .le 5, 3) := by decide +kernel
theorem dX4_bribes_9 : decode cX4_bribes 9 = .ok (.iconst (-1), 1) := by decide +kernel
theorem dX4_bribes_10 : decode cX4_bribes 10 = .ok (.ireturn, 1) := by decide +kernel
theorem dX4_bribes_11 : decode cX4_bribes 11 = .ok (.bipush (-4), 2) := by decide +kernel
theorem dX4_bribes_13 : decode cX4_bribes 13 = .ok (.istore_n 2, 1) := by decide +kernel
theorem dX4_bribes_14 : decode cX4_bribes 14 = .ok (.iconst 0, 1) := by decide +kernel
theorem dX4_bribes_15 : decode cX4_bribes 15 = .ok (.istore_n 3, 1) := by decide +kernel
theorem dX4_bribes_16 : decode cX4_bribes 16 = .ok (.iload_n 3, 1) := by decide +kernel
theorem dX4_bribes_17 : decode cX4_bribes 17 = .ok (.iconst 1, 1) := by decide +kernel
theorem dX4_bribes_18 : decode cX4_bribes 18 = .ok (.aload_n 0, 1) := by decide +kernel
theorem dX4_bribes_19 : decode cX4_bribes 19 = .ok (.getfield 19, 3) := by decide +kernel
theorem dX4_bribes_22 : decode cX4_bribes 22 = .ok (.getfield 93, 3) := by decide +kernel
theorem dX4_bribes_25 : decode cX4_bribes 25 = .ok (.ishl, 1) := by decide +kernel
theorem dX4_bribes_26 : decode cX4_bribes 26 = .ok (.if_icmp .ge 75, 3) := by decide +kernel
theorem dX4_bribes_29 : decode cX4_bribes 29 = .ok (.iload_n 2, 1) := by decide +kernel
theorem dX4_bribes_30 : decode cX4_bribes 30 = .ok (.bipush (-4), 2) := by decide +kernel
theorem dX4_bribes_32 : decode cX4_bribes 32 = .ok (.if_icmp .eq 19, 3) := by decide +kernel
theorem dX4_bribes_35 : decode cX4_bribes 35 = .ok (.aload_n 0, 1) := by decide +kernel
theorem dX4_bribes_36 : decode cX4_bribes 36 = .ok (.iload_n 3, 1) := by decide +kernel
theorem dX4_bribes_37 : decode cX4_bribes 37 = .ok (.invokevirtual 151, 3) := by decide +kernel
theorem dX4_bribes_40 : decode cX4_bribes 40 = .ok (.aload_n 0, 1) := by decide +kernel
theorem dX4_bribes_41 : decode cX4_bribes 41 = .ok (.iload_n 2, 1) := by decide +kernel
theorem dX4_bribes_42 : decode cX4_bribes 42 = .ok (.invokevirtual 151, 3) := by decide +kernel
theorem dX4_bribes_45 : decode cX4_bribes 45 = .ok (.if_icmp .lt 6, 3) := by decide +kernel
theorem dX4_bribes_48 : decode cX4_bribes 48 = .ok (.goto 47, 3) := by decide +kernel
theorem dX4_bribes_51 : decode cX4_bribes 51 = .ok (.aload_n 0, 1) := by decide +kernel
theorem dX4_bribes_52 : decode cX4_bribes 52 = .ok (.getfield 44, 3) := by decide +kernel
theorem dX4_bribes_55 : decode cX4_bribes 55 = .ok (.aload_n 0, 1) := by decide +kernel
theorem dX4_bribes_56 : decode cX4_bribes 56 = .ok (.getfield 19, 3) := by decide +kernel
theorem dX4_bribes_59 : decode cX4_bribes 59 = .ok (.aload_n 0, 1) := by decide +kernel
theorem dX4_bribes_60 : decode cX4_bribes 60 = .ok (.getfield 23, 3) := by decide +kernel
theorem dX4_bribes_63 : decode cX4_bribes 63 = .ok (.aload_n 0, 1) := by decide +kernel
theorem dX4_bribes_64 : decode cX4_bribes 64 = .ok (.getfield 19, 3) := by decide +kernel
theorem dX4_bribes_67 : decode cX4_bribes 67 = .ok (.getfield 176, 3) := by decide +kernel
theorem dX4_bribes_70 : decode cX4_bribes 70 = .ok (.iload_n 3, 1) := by decide +kernel
theorem dX4_bribes_71 : decode cX4_bribes 71 = .ok (.bipush 127, 2) := by decide +kernel
theorem dX4_bribes_73 : decode cX4_bribes 73 = .ok (.invokevirtual 179, 3) := by decide +kernel
theorem dX4_bribes_76 : decode cX4_bribes 76 = .ok (.aload_n 0, 1) := by decide +kernel
theorem dX4_bribes_77 : decode cX4_bribes 77 = .ok (.getfield 44, 3) := by decide +kernel
theorem dX4_bribes_80 : decode cX4_bribes 80 = .ok (.getfield 137, 3) := by decide +kernel
theorem dX4_bribes_83 : decode cX4_bribes 83 = .ok (.aload_n 0, 1) := by decide +kernel
theorem dX4_bribes_84 : decode cX4_bribes 84 = .ok (.getfield 19, 3) := by decide +kernel
theorem dX4_bribes_87 : decode cX4_bribes 87 = .ok (.getfield 131, 3) := by decide +kernel
theorem dX4_bribes_90 : decode cX4_bribes 90 = .ok (.if_icmp .ne 5, 3) := by decide +kernel
theorem dX4_bribes_93 : decode cX4_bribes 93 = .ok (.iload_n 3, 1) := by decide +kernel
theorem dX4_bribes_94 : decode cX4_bribes 94 = .ok (.istore_n 2, 1) := by decide +kernel
theorem dX4_bribes_95 : decode cX4_bribes 95 = .ok (.iinc 3 1, 3) := by decide +kernel
theorem dX4_bribes_98 : decode cX4_bribes 98 = .ok (.goto (-82), 3) := by decide +kernel
theorem dX4_bribes_101 : decode cX4_bribes 101 = .ok (.iload_n 2, 1) := by decide +kernel
theorem dX4_bribes_102 : decode cX4_bribes 102 = .ok (.bipush (-4), 2) := by decide +kernel
theorem dX4_bribes_104 : decode cX4_bribes 104 = .ok (.if_icmp .eq 7, 3) := by decide +kernel
theorem dX4_bribes_107 : decode cX4_bribes 107 = .ok (.iload_n 1, 1) := by decide +kernel
theorem dX4_bribes_108 : decode cX4_bribes 108 = .ok (.ifCond .ne 7, 3) := by decide +kernel
theorem dX4_bribes_111 : decode cX4_bribes 111 = .ok (.iload_n 2, 1) := by decide +kernel
theorem dX4_bribes_112 : decode cX4_bribes 112 = .ok (.goto 8, 3) := by decide +kernel
theorem dX4_bribes_115 : decode cX4_bribes 115 = .ok (.aload_n 0, 1) := by decide +kernel
theorem dX4_bribes_116 : decode cX4_bribes 116 = .ok (.iload_n 2, 1) := by decide +kernel
theorem dX4_bribes_117 : decode cX4_bribes 117 = .ok (.invokevirtual 151, 3) := by decide +kernel
theorem dX4_bribes_120 : decode cX4_bribes 120 = .ok (.ireturn, 1) := by decide +kernel
theorem dX4_rests_0 : decode cX4_rests 0 = .ok (.iconst 0, 1) := by decide +kernel
theorem dX4_rests_1 : decode cX4_rests 1 = .ok (.istore_n 1, 1) := by decide +kernel
theorem dX4_rests_2 : decode cX4_rests 2 = .ok (.iconst 0, 1) := by decide +kernel
theorem dX4_rests_3 : decode cX4_rests 3 = .ok (.istore_n 2, 1) := by decide +kernel
theorem dX4_rests_4 : decode cX4_rests 4 = .ok (.iload_n 2, 1) := by decide +kernel
theorem dX4_rests_5 : decode cX4_rests 5 = .ok (.aload_n 0, 1) := by decide +kernel
theorem dX4_rests_6 : decode cX4_rests 6 = .ok (.getfield 19, 3) := by decide +kernel
theorem dX4_rests_9 : decode cX4_rests 9 = .ok (.getfield 131, 3) := by decide +kernel
theorem dX4_rests_12 : decode cX4_rests 12 = .ok (.if_icmp .ge 20, 3) := by decide +kernel
theorem dX4_rests_15 : decode cX4_rests 15 = .ok (.iload_n 1, 1) := by decide +kernel
theorem dX4_rests_16 : decode cX4_rests 16 = .ok (.aload_n 0, 1) := by decide +kernel
theorem dX4_rests_17 : decode cX4_rests 17 = .ok (.iload_n 2, 1) := by decide +kernel
theorem dX4_rests_18 : decode cX4_rests 18 = .ok (.invokevirtual 128, 3) := by decide +kernel
theorem dX4_rests_21 : decode cX4_rests 21 = .ok (.invokestatic 183, 3) := by decide +kernel
theorem dX4_rests_24 : decode cX4_rests 24 = .ok (.iadd, 1) := by decide +kernel
theorem dX4_rests_25 : decode cX4_rests 25 = .ok (.istore_n 1, 1) := by decide +kernel
theorem dX4_rests_26 : decode cX4_rests 26 = .ok (.iinc 2 1, 3) := by decide +kernel
theorem dX4_rests_29 : decode cX4_rests 29 = .ok (.goto (-25), 3) := by decide +kernel
theorem dX4_rests_32 : decode cX4_rests 32 = .ok (.iload_n 1, 1) := by decide +kernel
theorem dX4_rests_33 : decode cX4_rests 33 = .ok (.ireturn, 1) := by decide +kernel
theorem dX4_silence_0 : decode cX4_silence 0 = .ok (.aload_n 0, 1) := by decide +kernel
theorem dX4_silence_1 : decode cX4_silence 1 = .ok (.iload_n 1, 1) := by decide +kernel
theorem dX4_silence_2 : decode cX4_silence 2 = .ok (.invokevirtual 96, 3) := by decide +kernel
theorem dX4_silence_5 : decode cX4_silence 5 = .ok (.ifCond .ne 5, 3) := by decide +kernel
theorem dX4_silence_8 : decode cX4_silence 8 = .ok (.iconst (-1), 1) := by decide +kernel
theorem dX4_silence_9 : decode cX4_silence 9 = .ok (.ireturn, 1) := by decide +kernel
theorem dX4_silence_10 : decode cX4_silence 10 = .ok (.aload_n 0, 1) := by decide +kernel
theorem dX4_silence_11 : decode cX4_silence 11 = .ok (.getfield 44, 3) := by decide +kernel
theorem dX4_silence_14 : decode cX4_silence 14 = .ok (.aload_n 0, 1) := by decide +kernel
theorem dX4_silence_15 : decode cX4_silence 15 = .ok (.getfield 19, 3) := by decide +kernel
theorem dX4_silence_18 : decode cX4_silence 18 = .ok (.aload_n 0, 1) := by decide +kernel
theorem dX4_silence_19 : decode cX4_silence 19 = .ok (.getfield 23, 3) := by decide +kernel
theorem dX4_silence_22 : decode cX4_silence 22 = .ok (.aload_n 0, 1) := by decide +kernel
theorem dX4_silence_23 : decode cX4_silence 23 = .ok (.getfield 19, 3) := by decide +kernel
theorem dX4_silence_26 : decode cX4_silence 26 = .ok (.getfield 176, 3) := by decide +kernel
theorem dX4_silence_29 : decode cX4_silence 29 = .ok (.aload_n 0, 1) := by decide +kernel
theorem dX4_silence_30 : decode cX4_silence 30 = .ok (.getfield 113, 3) := by decide +kernel
theorem dX4_silence_33 : decode cX4_silence 33 = .ok (.bipush 127, 2) := by decide +kernel
theorem dX4_silence_35 : decode cX4_silence 35 = .ok (.iconst 1, 1) := by decide +kernel
theorem dX4_silence_36 : decode cX4_silence 36 = .ok (.iload_n 1, 1) := by decide +kernel
theorem dX4_silence_37 : decode cX4_silence 37 = .ok (.ishl, 1) := by decide +kernel
theorem dX4_silence_38 : decode cX4_silence 38 = .ok (.iconst (-1), 1) := by decide +kernel
theorem dX4_silence_39 : decode cX4_silence 39 = .ok (.ixor, 1) := by decide +kernel
theorem dX4_silence_40 : decode cX4_silence 40 = .ok (.iand, 1) := by decide +kernel
theorem dX4_silence_41 : decode cX4_silence 41 = .ok (.invokevirtual 179, 3) := by decide +kernel
theorem dX4_silence_44 : decode cX4_silence 44 = .ok (.aload_n 0, 1) := by decide +kernel
theorem dX4_silence_45 : decode cX4_silence 45 = .ok (.getfield 30, 3) := by decide +kernel
theorem dX4_silence_48 : decode cX4_silence 48 = .ok (.getfield 134, 3) := by decide +kernel
theorem dX4_silence_51 : decode cX4_silence 51 = .ok (.aload_n 0, 1) := by decide +kernel
theorem dX4_silence_52 : decode cX4_silence 52 = .ok (.getfield 44, 3) := by decide +kernel
theorem dX4_silence_55 : decode cX4_silence 55 = .ok (.getfield 134, 3) := by decide +kernel
theorem dX4_silence_58 : decode cX4_silence 58 = .ok (.isub, 1) := by decide +kernel
theorem dX4_silence_59 : decode cX4_silence 59 = .ok (.bipush 100, 2) := by decide +kernel
theorem dX4_silence_61 : decode cX4_silence 61 = .ok (.iadd, 1) := by decide +kernel
theorem dX4_silence_62 : decode cX4_silence 62 = .ok (.ireturn, 1) := by decide +kernel
theorem dX4_alike_0 : decode cX4_alike 0 = .ok (.aload_n 0, 1) := by decide +kernel
theorem dX4_alike_1 : decode cX4_alike 1 = .ok (.invokevirtual 157, 3) := by decide +kernel
theorem dX4_alike_4 : decode cX4_alike 4 = .ok (.getfield 188, 3) := by decide +kernel
theorem dX4_alike_7 : decode cX4_alike 7 = .ok (.ireturn, 1) := by decide +kernel
theorem dX4_odds_0 : decode cX4_odds 0 = .ok (.iload_n 1, 1) := by decide +kernel
theorem dX4_odds_1 : decode cX4_odds 1 = .ok (.ifCond .lt 8, 3) := by decide +kernel
theorem dX4_odds_4 : decode cX4_odds 4 = .ok (.iload_n 1, 1) := by decide +kernel
theorem dX4_odds_5 : decode cX4_odds 5 = .ok (.iconst 1, 1) := by decide +kernel
theorem dX4_odds_6 : decode cX4_odds 6 = .ok (.if_icmp .le 5, 3) := by decide +kernel
theorem dX4_odds_9 : decode cX4_odds 9 = .ok (.iconst (-1), 1) := by decide +kernel
theorem dX4_odds_10 : decode cX4_odds 10 = .ok (.ireturn, 1) := by decide +kernel
theorem dX4_odds_11 : decode cX4_odds 11 = .ok (.aload_n 0, 1) := by decide +kernel
theorem dX4_odds_12 : decode cX4_odds 12 = .ok (.invokevirtual 157, 3) := by decide +kernel
theorem dX4_odds_15 : decode cX4_odds 15 = .ok (.getfield 191, 3) := by decide +kernel
theorem dX4_odds_18 : decode cX4_odds 18 = .ok (.aload_n 0, 1) := by decide +kernel
theorem dX4_odds_19 : decode cX4_odds 19 = .ok (.getfield 37, 3) := by decide +kernel
theorem dX4_odds_22 : decode cX4_odds 22 = .ok (.getfield 194, 3) := by decide +kernel
theorem dX4_odds_25 : decode cX4_odds 25 = .ok (.iload_n 1, 1) := by decide +kernel
theorem dX4_odds_26 : decode cX4_odds 26 = .ok (.invokestatic 197, 3) := by decide +kernel
theorem dX4_odds_29 : decode cX4_odds 29 = .ok (.ireturn, 1) := by decide +kernel
theorem dX4_atLeast_0 : decode cX4_atLeast 0 = .ok (.iload_n 1, 1) := by decide +kernel
theorem dX4_atLeast_1 : decode cX4_atLeast 1 = .ok (.ifCond .lt 18, 3) := by decide +kernel
theorem dX4_atLeast_4 : decode cX4_atLeast 4 = .ok (.iload_n 1, 1) := by decide +kernel
theorem dX4_atLeast_5 : decode cX4_atLeast 5 = .ok (.bipush 56, 2) := by decide +kernel
theorem dX4_atLeast_7 : decode cX4_atLeast 7 = .ok (.if_icmp .gt 12, 3) := by decide +kernel
theorem dX4_atLeast_10 : decode cX4_atLeast 10 = .ok (.iload_n 2, 1) := by decide +kernel
theorem dX4_atLeast_11 : decode cX4_atLeast 11 = .ok (.ifCond .lt 8, 3) := by decide +kernel
theorem dX4_atLeast_14 : decode cX4_atLeast 14 = .ok (.iload_n 2, 1) := by decide +kernel
theorem dX4_atLeast_15 : decode cX4_atLeast 15 = .ok (.iconst 1, 1) := by decide +kernel
theorem dX4_atLeast_16 : decode cX4_atLeast 16 = .ok (.if_icmp .le 5, 3) := by decide +kernel
theorem dX4_atLeast_19 : decode cX4_atLeast 19 = .ok (.iconst (-1), 1) := by decide +kernel
theorem dX4_atLeast_20 : decode cX4_atLeast 20 = .ok (.ireturn, 1) := by decide +kernel
theorem dX4_atLeast_21 : decode cX4_atLeast 21 = .ok (.iconst 0, 1) := by decide +kernel
theorem dX4_atLeast_22 : decode cX4_atLeast 22 = .ok (.istore_n 3, 1) := by decide +kernel
theorem dX4_atLeast_23 : decode cX4_atLeast 23 = .ok (.iload_n 1, 1) := by decide +kernel
theorem dX4_atLeast_24 : decode cX4_atLeast 24 = .ok (.istore 4, 2) := by decide +kernel
theorem dX4_atLeast_26 : decode cX4_atLeast 26 = .ok (.iload 4, 2) := by decide +kernel
theorem dX4_atLeast_28 : decode cX4_atLeast 28 = .ok (.bipush 56, 2) := by decide +kernel
theorem dX4_atLeast_30 : decode cX4_atLeast 30 = .ok (.if_icmp .gt 22, 3) := by decide +kernel
theorem dX4_atLeast_33 : decode cX4_atLeast 33 = .ok (.iload_n 3, 1) := by decide +kernel
theorem dX4_atLeast_34 : decode cX4_atLeast 34 = .ok (.aload_n 0, 1) := by decide +kernel
theorem dX4_atLeast_35 : decode cX4_atLeast 35 = .ok (.invokevirtual 157, 3) := by decide +kernel
theorem dX4_atLeast_38 : decode cX4_atLeast 38 = .ok (.getfield 201, 3) := by decide +kernel
theorem dX4_atLeast_41 : decode cX4_atLeast 41 = .ok (.iload 4, 2) := by decide +kernel
theorem dX4_atLeast_43 : decode cX4_atLeast 43 = .ok (.iaload, 1) := by decide +kernel
theorem dX4_atLeast_44 : decode cX4_atLeast 44 = .ok (.iadd, 1) := by decide +kernel
theorem dX4_atLeast_45 : decode cX4_atLeast 45 = .ok (.istore_n 3, 1) := by decide +kernel
theorem dX4_atLeast_46 : decode cX4_atLeast 46 = .ok (.iinc 4 1, 3) := by decide +kernel
theorem dX4_atLeast_49 : decode cX4_atLeast 49 = .ok (.goto (-23), 3) := by decide +kernel
theorem dX4_atLeast_52 : decode cX4_atLeast 52 = .ok (.iload_n 3, 1) := by decide +kernel
theorem dX4_atLeast_53 : decode cX4_atLeast 53 = .ok (.aload_n 0, 1) := by decide +kernel
theorem dX4_atLeast_54 : decode cX4_atLeast 54 = .ok (.getfield 37, 3) := by decide +kernel
theorem dX4_atLeast_57 : decode cX4_atLeast 57 = .ok (.getfield 194, 3) := by decide +kernel
theorem dX4_atLeast_60 : decode cX4_atLeast 60 = .ok (.iload_n 2, 1) := by decide +kernel
theorem dX4_atLeast_61 : decode cX4_atLeast 61 = .ok (.invokestatic 197, 3) := by decide +kernel
theorem dX4_atLeast_64 : decode cX4_atLeast 64 = .ok (.ireturn, 1) := by decide +kernel
theorem dX4_heard_0 : decode cX4_heard 0 = .ok (.aload_n 0, 1) := by decide +kernel
theorem dX4_heard_1 : decode cX4_heard 1 = .ok (.iload_n 1, 1) := by decide +kernel
theorem dX4_heard_2 : decode cX4_heard 2 = .ok (.invokevirtual 96, 3) := by decide +kernel
theorem dX4_heard_5 : decode cX4_heard 5 = .ok (.ifCond .eq 20, 3) := by decide +kernel
theorem dX4_heard_8 : decode cX4_heard 8 = .ok (.aload_n 0, 1) := by decide +kernel
theorem dX4_heard_9 : decode cX4_heard 9 = .ok (.iload_n 2, 1) := by decide +kernel
theorem dX4_heard_10 : decode cX4_heard 10 = .ok (.invokevirtual 119, 3) := by decide +kernel
theorem dX4_heard_13 : decode cX4_heard 13 = .ok (.ifCond .eq 12, 3) := by decide +kernel
theorem dX4_heard_16 : decode cX4_heard 16 = .ok (.iload_n 3, 1) := by decide +kernel
theorem dX4_heard_17 : decode cX4_heard 17 = .ok (.ifCond .lt 8, 3) := by decide +kernel
theorem dX4_heard_20 : decode cX4_heard 20 = .ok (.iload_n 3, 1) := by decide +kernel
theorem dX4_heard_21 : decode cX4_heard 21 = .ok (.iconst 1, 1) := by decide +kernel
theorem dX4_heard_22 : decode cX4_heard 22 = .ok (.if_icmp .le 5, 3) := by decide +kernel
theorem dX4_heard_25 : decode cX4_heard 25 = .ok (.iconst (-1), 1) := by decide +kernel
theorem dX4_heard_26 : decode cX4_heard 26 = .ok (.ireturn, 1) := by decide +kernel
theorem dX4_heard_27 : decode cX4_heard 27 = .ok (.aload_n 0, 1) := by decide +kernel
theorem dX4_heard_28 : decode cX4_heard 28 = .ok (.getfield 204, 3) := by decide +kernel
theorem dX4_heard_31 : decode cX4_heard 31 = .ok (.bipush 8, 2) := by decide +kernel
theorem dX4_heard_33 : decode cX4_heard 33 = .ok (.if_icmp .lt 6, 3) := by decide +kernel
theorem dX4_heard_36 : decode cX4_heard 36 = .ok (.bipush (-3), 2) := by decide +kernel
theorem dX4_heard_38 : decode cX4_heard 38 = .ok (.ireturn, 1) := by decide +kernel
theorem dX4_heard_39 : decode cX4_heard 39 = .ok (.aload_n 0, 1) := by decide +kernel
theorem dX4_heard_40 : decode cX4_heard 40 = .ok (.getfield 50, 3) := by decide +kernel
theorem dX4_heard_43 : decode cX4_heard 43 = .ok (.aload_n 0, 1) := by decide +kernel
theorem dX4_heard_44 : decode cX4_heard 44 = .ok (.getfield 204, 3) := by decide +kernel
theorem dX4_heard_47 : decode cX4_heard 47 = .ok (.iload_n 1, 1) := by decide +kernel
theorem dX4_heard_48 : decode cX4_heard 48 = .ok (.iastore, 1) := by decide +kernel
theorem dX4_heard_49 : decode cX4_heard 49 = .ok (.aload_n 0, 1) := by decide +kernel
theorem dX4_heard_50 : decode cX4_heard 50 = .ok (.getfield 53, 3) := by decide +kernel
theorem dX4_heard_53 : decode cX4_heard 53 = .ok (.aload_n 0, 1) := by decide +kernel
theorem dX4_heard_54 : decode cX4_heard 54 = .ok (.getfield 204, 3) := by decide +kernel
theorem dX4_heard_57 : decode cX4_heard 57 = .ok (.iload_n 2, 1) := by decide +kernel
theorem dX4_heard_58 : decode cX4_heard 58 = .ok (.iastore, 1) := by decide +kernel
theorem dX4_heard_59 : decode cX4_heard 59 = .ok (.aload_n 0, 1) := by decide +kernel
theorem dX4_heard_60 : decode cX4_heard 60 = .ok (.getfield 56, 3) := by decide +kernel
theorem dX4_heard_63 : decode cX4_heard 63 = .ok (.aload_n 0, 1) := by decide +kernel
theorem dX4_heard_64 : decode cX4_heard 64 = .ok (.getfield 204, 3) := by decide +kernel
theorem dX4_heard_67 : decode cX4_heard 67 = .ok (.iload_n 3, 1) := by decide +kernel
theorem dX4_heard_68 : decode cX4_heard 68 = .ok (.iastore, 1) := by decide +kernel
theorem dX4_heard_69 : decode cX4_heard 69 = .ok (.aload_n 0, 1) := by decide +kernel
theorem dX4_heard_70 : decode cX4_heard 70 = .ok (.dup, 1) := by decide +kernel
theorem dX4_heard_71 : decode cX4_heard 71 = .ok (.getfield 204, 3) := by decide +kernel
theorem dX4_heard_74 : decode cX4_heard 74 = .ok (.iconst 1, 1) := by decide +kernel
theorem dX4_heard_75 : decode cX4_heard 75 = .ok (.iadd, 1) := by decide +kernel
theorem dX4_heard_76 : decode cX4_heard 76 = .ok (.putfield 204, 3) := by decide +kernel
theorem dX4_heard_79 : decode cX4_heard 79 = .ok (.aload_n 0, 1) := by decide +kernel
theorem dX4_heard_80 : decode cX4_heard 80 = .ok (.getfield 204, 3) := by decide +kernel
theorem dX4_heard_83 : decode cX4_heard 83 = .ok (.ireturn, 1) := by decide +kernel
theorem dX4_forget_0 : decode cX4_forget 0 = .ok (.aload_n 0, 1) := by decide +kernel
theorem dX4_forget_1 : decode cX4_forget 1 = .ok (.getfield 204, 3) := by decide +kernel
theorem dX4_forget_4 : decode cX4_forget 4 = .ok (.istore_n 1, 1) := by decide +kernel
theorem dX4_forget_5 : decode cX4_forget 5 = .ok (.aload_n 0, 1) := by decide +kernel
theorem dX4_forget_6 : decode cX4_forget 6 = .ok (.iconst 0, 1) := by decide +kernel
theorem dX4_forget_7 : decode cX4_forget 7 = .ok (.putfield 204, 3) := by decide +kernel
theorem dX4_forget_10 : decode cX4_forget 10 = .ok (.iload_n 1, 1) := by decide +kernel
theorem dX4_forget_11 : decode cX4_forget 11 = .ok (.ireturn, 1) := by decide +kernel
theorem dX4_kinds_0 : decode cX4_kinds 0 = .ok (.aload_n 0, 1) := by decide +kernel
theorem dX4_kinds_1 : decode cX4_kinds 1 = .ok (.iload_n 1, 1) := by decide +kernel
theorem dX4_kinds_2 : decode cX4_kinds 2 = .ok (.invokevirtual 96, 3) := by decide +kernel
theorem dX4_kinds_5 : decode cX4_kinds 5 = .ok (.ifCond .ne 5, 3) := by decide +kernel
theorem dX4_kinds_8 : decode cX4_kinds 8 = .ok (.iconst (-1), 1) := by decide +kernel
theorem dX4_kinds_9 : decode cX4_kinds 9 = .ok (.ireturn, 1) := by decide +kernel
theorem dX4_kinds_10 : decode cX4_kinds 10 = .ok (.aload_n 0, 1) := by decide +kernel
theorem dX4_kinds_11 : decode cX4_kinds 11 = .ok (.getfield 19, 3) := by decide +kernel
theorem dX4_kinds_14 : decode cX4_kinds 14 = .ok (.getfield 100, 3) := by decide +kernel
theorem dX4_kinds_17 : decode cX4_kinds 17 = .ok (.iload_n 1, 1) := by decide +kernel
theorem dX4_kinds_18 : decode cX4_kinds 18 = .ok (.iaload, 1) := by decide +kernel
theorem dX4_kinds_19 : decode cX4_kinds 19 = .ok (.istore_n 2, 1) := by decide +kernel
theorem dX4_kinds_20 : decode cX4_kinds 20 = .ok (.iconst 0, 1) := by decide +kernel
theorem dX4_kinds_21 : decode cX4_kinds 21 = .ok (.istore_n 3, 1) := by decide +kernel
theorem dX4_kinds_22 : decode cX4_kinds 22 = .ok (.iconst 0, 1) := by decide +kernel
theorem dX4_kinds_23 : decode cX4_kinds 23 = .ok (.istore 4, 2) := by decide +kernel
theorem dX4_kinds_25 : decode cX4_kinds 25 = .ok (.iload 4, 2) := by decide +kernel
theorem dX4_kinds_27 : decode cX4_kinds 27 = .ok (.iconst 4, 1) := by decide +kernel
theorem dX4_kinds_28 : decode cX4_kinds 28 = .ok (.if_icmp .ge 73, 3) := by decide +kernel
theorem dX4_kinds_31 : decode cX4_kinds 31 = .ok (.aload_n 0, 1) := by decide +kernel
theorem dX4_kinds_32 : decode cX4_kinds 32 = .ok (.getfield 19, 3) := by decide +kernel
theorem dX4_kinds_35 : decode cX4_kinds 35 = .ok (.getfield 100, 3) := by decide +kernel
theorem dX4_kinds_38 : decode cX4_kinds 38 = .ok (.iload_n 1, 1) := by decide +kernel
theorem dX4_kinds_39 : decode cX4_kinds 39 = .ok (.iload 4, 2) := by decide +kernel
theorem dX4_kinds_41 : decode cX4_kinds 41 = .ok (.iastore, 1) := by decide +kernel
theorem dX4_kinds_42 : decode cX4_kinds 42 = .ok (.aload_n 0, 1) := by decide +kernel
theorem dX4_kinds_43 : decode cX4_kinds 43 = .ok (.getfield 44, 3) := by decide +kernel
theorem dX4_kinds_46 : decode cX4_kinds 46 = .ok (.aload_n 0, 1) := by decide +kernel
theorem dX4_kinds_47 : decode cX4_kinds 47 = .ok (.getfield 19, 3) := by decide +kernel
theorem dX4_kinds_50 : decode cX4_kinds 50 = .ok (.aload_n 0, 1) := by decide +kernel
theorem dX4_kinds_51 : decode cX4_kinds 51 = .ok (.getfield 23, 3) := by decide +kernel
theorem dX4_kinds_54 : decode cX4_kinds 54 = .ok (.aload_n 0, 1) := by decide +kernel
theorem dX4_kinds_55 : decode cX4_kinds 55 = .ok (.getfield 19, 3) := by decide +kernel
theorem dX4_kinds_58 : decode cX4_kinds 58 = .ok (.getfield 176, 3) := by decide +kernel
theorem dX4_kinds_61 : decode cX4_kinds 61 = .ok (.aload_n 0, 1) := by decide +kernel
theorem dX4_kinds_62 : decode cX4_kinds 62 = .ok (.getfield 113, 3) := by decide +kernel
theorem dX4_kinds_65 : decode cX4_kinds 65 = .ok (.iconst 1, 1) := by decide +kernel
theorem dX4_kinds_66 : decode cX4_kinds 66 = .ok (.iload_n 1, 1) := by decide +kernel
theorem dX4_kinds_67 : decode cX4_kinds 67 = .ok (.ishl, 1) := by decide +kernel
theorem dX4_kinds_68 : decode cX4_kinds 68 = .ok (.iconst (-1), 1) := by decide +kernel
theorem dX4_kinds_69 : decode cX4_kinds 69 = .ok (.ixor, 1) := by decide +kernel
theorem dX4_kinds_70 : decode cX4_kinds 70 = .ok (.iand, 1) := by decide +kernel
theorem dX4_kinds_71 : decode cX4_kinds 71 = .ok (.bipush 127, 2) := by decide +kernel
theorem dX4_kinds_73 : decode cX4_kinds 73 = .ok (.invokevirtual 179, 3) := by decide +kernel
theorem dX4_kinds_76 : decode cX4_kinds 76 = .ok (.aload_n 0, 1) := by decide +kernel
theorem dX4_kinds_77 : decode cX4_kinds 77 = .ok (.iload_n 1, 1) := by decide +kernel
theorem dX4_kinds_78 : decode cX4_kinds 78 = .ok (.aload_n 0, 1) := by decide +kernel
theorem dX4_kinds_79 : decode cX4_kinds 79 = .ok (.getfield 44, 3) := by decide +kernel
theorem dX4_kinds_82 : decode cX4_kinds 82 = .ok (.invokevirtual 207, 3) := by decide +kernel
theorem dX4_kinds_85 : decode cX4_kinds 85 = .ok (.ifCond .eq 10, 3) := by decide +kernel
theorem dX4_kinds_88 : decode cX4_kinds 88 = .ok (.iload_n 3, 1) := by decide +kernel
theorem dX4_kinds_89 : decode cX4_kinds 89 = .ok (.iconst 1, 1) := by decide +kernel
theorem dX4_kinds_90 : decode cX4_kinds 90 = .ok (.iload 4, 2) := by decide +kernel
theorem dX4_kinds_92 : decode cX4_kinds 92 = .ok (.ishl, 1) := by decide +kernel
theorem dX4_kinds_93 : decode cX4_kinds 93 = .ok (.ior, 1) := by decide +kernel
theorem dX4_kinds_94 : decode cX4_kinds 94 = .ok (.istore_n 3, 1) := by decide +kernel
theorem dX4_kinds_95 : decode cX4_kinds 95 = .ok (.iinc 4 1, 3) := by decide +kernel
theorem dX4_kinds_98 : decode cX4_kinds 98 = .ok (.goto (-73), 3) := by decide +kernel
theorem dX4_kinds_101 : decode cX4_kinds 101 = .ok (.aload_n 0, 1) := by decide +kernel
theorem dX4_kinds_102 : decode cX4_kinds 102 = .ok (.getfield 19, 3) := by decide +kernel
theorem dX4_kinds_105 : decode cX4_kinds 105 = .ok (.getfield 100, 3) := by decide +kernel
theorem dX4_kinds_108 : decode cX4_kinds 108 = .ok (.iload_n 1, 1) := by decide +kernel
theorem dX4_kinds_109 : decode cX4_kinds 109 = .ok (.iload_n 2, 1) := by decide +kernel
theorem dX4_kinds_110 : decode cX4_kinds 110 = .ok (.iastore, 1) := by decide +kernel
theorem dX4_kinds_111 : decode cX4_kinds 111 = .ok (.iload_n 3, 1) := by decide +kernel
theorem dX4_kinds_112 : decode cX4_kinds 112 = .ok (.ireturn, 1) := by decide +kernel
theorem dX4_hall_0 : decode cX4_hall 0 = .ok (.iload_n 1, 1) := by decide +kernel
theorem dX4_hall_1 : decode cX4_hall 1 = .ok (.bipush 9, 2) := by decide +kernel
theorem dX4_hall_3 : decode cX4_hall 3 = .ok (.if_icmp .eq 22, 3) := by decide +kernel
theorem dX4_hall_6 : decode cX4_hall 6 = .ok (.iload_n 1, 1) := by decide +kernel
theorem dX4_hall_7 : decode cX4_hall 7 = .ok (.ifCond .lt 16, 3) := by decide +kernel
theorem dX4_hall_10 : decode cX4_hall 10 = .ok (.iload_n 1, 1) := by decide +kernel
theorem dX4_hall_11 : decode cX4_hall 11 = .ok (.aload_n 0, 1) := by decide +kernel
theorem dX4_hall_12 : decode cX4_hall 12 = .ok (.getfield 19, 3) := by decide +kernel
theorem dX4_hall_15 : decode cX4_hall 15 = .ok (.getfield 93, 3) := by decide +kernel
theorem dX4_hall_18 : decode cX4_hall 18 = .ok (.iconst 2, 1) := by decide +kernel
theorem dX4_hall_19 : decode cX4_hall 19 = .ok (.isub, 1) := by decide +kernel
theorem dX4_hall_20 : decode cX4_hall 20 = .ok (.if_icmp .le 5, 3) := by decide +kernel
theorem dX4_hall_23 : decode cX4_hall 23 = .ok (.iconst (-1), 1) := by decide +kernel
theorem dX4_hall_24 : decode cX4_hall 24 = .ok (.ireturn, 1) := by decide +kernel
theorem dX4_hall_25 : decode cX4_hall 25 = .ok (.aload_n 0, 1) := by decide +kernel
theorem dX4_hall_26 : decode cX4_hall 26 = .ok (.getfield 44, 3) := by decide +kernel
theorem dX4_hall_29 : decode cX4_hall 29 = .ok (.aload_n 0, 1) := by decide +kernel
theorem dX4_hall_30 : decode cX4_hall 30 = .ok (.getfield 19, 3) := by decide +kernel
theorem dX4_hall_33 : decode cX4_hall 33 = .ok (.aload_n 0, 1) := by decide +kernel
theorem dX4_hall_34 : decode cX4_hall 34 = .ok (.getfield 23, 3) := by decide +kernel
theorem dX4_hall_37 : decode cX4_hall 37 = .ok (.iload_n 1, 1) := by decide +kernel
theorem dX4_hall_38 : decode cX4_hall 38 = .ok (.bipush 9, 2) := by decide +kernel
theorem dX4_hall_40 : decode cX4_hall 40 = .ok (.if_icmp .ne 7, 3) := by decide +kernel
theorem dX4_hall_43 : decode cX4_hall 43 = .ok (.iconst 0, 1) := by decide +kernel
theorem dX4_hall_44 : decode cX4_hall 44 = .ok (.goto 6, 3) := by decide +kernel
theorem dX4_hall_47 : decode cX4_hall 47 = .ok (.iconst 1, 1) := by decide +kernel
theorem dX4_hall_48 : decode cX4_hall 48 = .ok (.iload_n 1, 1) := by decide +kernel
theorem dX4_hall_49 : decode cX4_hall 49 = .ok (.ishl, 1) := by decide +kernel
theorem dX4_hall_50 : decode cX4_hall 50 = .ok (.aload_n 0, 1) := by decide +kernel
theorem dX4_hall_51 : decode cX4_hall 51 = .ok (.getfield 113, 3) := by decide +kernel
theorem dX4_hall_54 : decode cX4_hall 54 = .ok (.bipush 127, 2) := by decide +kernel
theorem dX4_hall_56 : decode cX4_hall 56 = .ok (.invokevirtual 179, 3) := by decide +kernel
theorem dX4_hall_59 : decode cX4_hall 59 = .ok (.aload_n 0, 1) := by decide +kernel
theorem dX4_hall_60 : decode cX4_hall 60 = .ok (.getfield 44, 3) := by decide +kernel
theorem dX4_hall_63 : decode cX4_hall 63 = .ok (.getfield 134, 3) := by decide +kernel
theorem dX4_hall_66 : decode cX4_hall 66 = .ok (.ireturn, 1) := by decide +kernel
theorem dX4_tour_0 : decode cX4_tour 0 = .ok (.iload_n 1, 1) := by decide +kernel
theorem dX4_tour_1 : decode cX4_tour 1 = .ok (.ifCond .lt 30, 3) := by decide +kernel
theorem dX4_tour_4 : decode cX4_tour 4 = .ok (.iload_n 1, 1) := by decide +kernel
theorem dX4_tour_5 : decode cX4_tour 5 = .ok (.sipush 9999, 3) := by decide +kernel
theorem dX4_tour_8 : decode cX4_tour 8 = .ok (.if_icmp .gt 23, 3) := by decide +kernel
theorem dX4_tour_11 : decode cX4_tour 11 = .ok (.iload_n 2, 1) := by decide +kernel
theorem dX4_tour_12 : decode cX4_tour 12 = .ok (.iconst 1, 1) := by decide +kernel
theorem dX4_tour_13 : decode cX4_tour 13 = .ok (.if_icmp .lt 18, 3) := by decide +kernel
theorem dX4_tour_16 : decode cX4_tour 16 = .ok (.iload_n 2, 1) := by decide +kernel
theorem dX4_tour_17 : decode cX4_tour 17 = .ok (.bipush 20, 2) := by decide +kernel
theorem dX4_tour_19 : decode cX4_tour 19 = .ok (.if_icmp .gt 12, 3) := by decide +kernel
theorem dX4_tour_22 : decode cX4_tour 22 = .ok (.iload_n 3, 1) := by decide +kernel
theorem dX4_tour_23 : decode cX4_tour 23 = .ok (.ifCond .lt 8, 3) := by decide +kernel
theorem dX4_tour_26 : decode cX4_tour 26 = .ok (.iload_n 3, 1) := by decide +kernel
theorem dX4_tour_27 : decode cX4_tour 27 = .ok (.iconst 1, 1) := by decide +kernel
theorem dX4_tour_28 : decode cX4_tour 28 = .ok (.if_icmp .le 5, 3) := by decide +kernel
theorem dX4_tour_31 : decode cX4_tour 31 = .ok (.iconst (-1), 1) := by decide +kernel
theorem dX4_tour_32 : decode cX4_tour 32 = .ok (.ireturn, 1) := by decide +kernel
theorem dX4_tour_33 : decode cX4_tour 33 = .ok (.iconst 1, 1) := by decide +kernel
theorem dX4_tour_34 : decode cX4_tour 34 = .ok (.aload_n 0, 1) := by decide +kernel
theorem dX4_tour_35 : decode cX4_tour 35 = .ok (.getfield 19, 3) := by decide +kernel
theorem dX4_tour_38 : decode cX4_tour 38 = .ok (.getfield 93, 3) := by decide +kernel
theorem dX4_tour_41 : decode cX4_tour 41 = .ok (.invokestatic 211, 3) := by decide +kernel
theorem dX4_tour_44 : decode cX4_tour 44 = .ok (.istore 4, 2) := by decide +kernel
theorem dX4_tour_46 : decode cX4_tour 46 = .ok (.iconst 0, 1) := by decide +kernel
theorem dX4_tour_47 : decode cX4_tour 47 = .ok (.istore 5, 2) := by decide +kernel
theorem dX4_tour_49 : decode cX4_tour 49 = .ok (.iconst 0, 1) := by decide +kernel
theorem dX4_tour_50 : decode cX4_tour 50 = .ok (.istore 6, 2) := by decide +kernel
theorem dX4_tour_52 : decode cX4_tour 52 = .ok (.aload_n 0, 1) := by decide +kernel
theorem dX4_tour_53 : decode cX4_tour 53 = .ok (.getfield 23, 3) := by decide +kernel
theorem dX4_tour_56 : decode cX4_tour 56 = .ok (.iconst 0, 1) := by decide +kernel
theorem dX4_tour_57 : decode cX4_tour 57 = .ok (.aload_n 0, 1) := by decide +kernel
theorem dX4_tour_58 : decode cX4_tour 58 = .ok (.getfield 41, 3) := by decide +kernel
theorem dX4_tour_61 : decode cX4_tour 61 = .ok (.iconst 0, 1) := by decide +kernel
theorem dX4_tour_62 : decode cX4_tour 62 = .ok (.aload_n 0, 1) := by decide +kernel
theorem dX4_tour_63 : decode cX4_tour 63 = .ok (.getfield 23, 3) := by decide +kernel
theorem dX4_tour_66 : decode cX4_tour 66 = .ok (.arraylength, 1) := by decide +kernel
theorem dX4_tour_67 : decode cX4_tour 67 = .ok (.invokestatic 170, 3) := by decide +kernel
theorem dX4_tour_70 : decode cX4_tour 70 = .ok (.iconst 0, 1) := by decide +kernel
theorem dX4_tour_71 : decode cX4_tour 71 = .ok (.istore 7, 2) := by decide +kernel
theorem dX4_tour_73 : decode cX4_tour 73 = .ok (.iload 7, 2) := by decide +kernel
theorem dX4_tour_75 : decode cX4_tour 75 = .ok (.iload_n 2, 1) := by decide +kernel
theorem dX4_tour_76 : decode cX4_tour 76 = .ok (.if_icmp .ge 106, 3) := by decide +kernel
theorem dX4_tour_79 : decode cX4_tour 79 = .ok (.iload_n 1, 1) := by decide +kernel
theorem dX4_tour_80 : decode cX4_tour 80 = .ok (.iload 7, 2) := by decide +kernel
theorem dX4_tour_82 : decode cX4_tour 82 = .ok (.invokestatic 217, 3) := by decide +kernel
theorem dX4_tour_85 : decode cX4_tour 85 = .ok (.istore 8, 2) := by decide +kernel
theorem dX4_tour_87 : decode cX4_tour 87 = .ok (.aload_n 0, 1) := by decide +kernel
theorem dX4_tour_88 : decode cX4_tour 88 = .ok (.getfield 41, 3) := by decide +kernel
theorem dX4_tour_91 : decode cX4_tour 91 = .ok (.iload 8, 2) := by decide +kernel
theorem dX4_tour_93 : decode cX4_tour 93 = .ok (.iload 4, 2) := by decide +kernel
theorem dX4_tour_95 : decode cX4_tour 95 = .ok (.irem, 1) := by decide +kernel
theorem dX4_tour_96 : decode cX4_tour 96 = .ok (.iload 8, 2) := by decide +kernel
theorem dX4_tour_98 : decode cX4_tour 98 = .ok (.bipush 8, 2) := by decide +kernel
theorem dX4_tour_100 : decode cX4_tour 100 = .ok (.idiv, 1) := by decide +kernel
theorem dX4_tour_101 : decode cX4_tour 101 = .ok (.iload 4, 2) := by decide +kernel
theorem dX4_tour_103 : decode cX4_tour 103 = .ok (.irem, 1) := by decide +kernel
theorem dX4_tour_104 : decode cX4_tour 104 = .ok (.invokestatic 144, 3) := by decide +kernel
theorem dX4_tour_107 : decode cX4_tour 107 = .ok (.aload_n 0, 1) := by decide +kernel
theorem dX4_tour_108 : decode cX4_tour 108 = .ok (.getfield 44, 3) := by decide +kernel
theorem dX4_tour_111 : decode cX4_tour 111 = .ok (.aload_n 0, 1) := by decide +kernel
theorem dX4_tour_112 : decode cX4_tour 112 = .ok (.getfield 19, 3) := by decide +kernel
theorem dX4_tour_115 : decode cX4_tour 115 = .ok (.aload_n 0, 1) := by decide +kernel
theorem dX4_tour_116 : decode cX4_tour 116 = .ok (.getfield 41, 3) := by decide +kernel
theorem dX4_tour_119 : decode cX4_tour 119 = .ok (.aload_n 0, 1) := by decide +kernel
theorem dX4_tour_120 : decode cX4_tour 120 = .ok (.getfield 19, 3) := by decide +kernel
theorem dX4_tour_123 : decode cX4_tour 123 = .ok (.getfield 176, 3) := by decide +kernel
theorem dX4_tour_126 : decode cX4_tour 126 = .ok (.aload_n 0, 1) := by decide +kernel
theorem dX4_tour_127 : decode cX4_tour 127 = .ok (.getfield 113, 3) := by decide +kernel
theorem dX4_tour_130 : decode cX4_tour 130 = .ok (.bipush 127, 2) := by decide +kernel
theorem dX4_tour_132 : decode cX4_tour 132 = .ok (.invokevirtual 179, 3) := by decide +kernel
theorem dX4_tour_135 : decode cX4_tour 135 = .ok (.iload 5, 2) := by decide +kernel
theorem dX4_tour_137 : decode cX4_tour 137 = .ok (.aload_n 0, 1) := by decide +kernel
theorem dX4_tour_138 : decode cX4_tour 138 = .ok (.getfield 44, 3) := by decide +kernel
theorem dX4_tour_141 : decode cX4_tour 141 = .ok (.getfield 137, 3) := by decide +kernel
theorem dX4_tour_144 : decode cX4_tour 144 = .ok (.aload_n 0, 1) := by decide +kernel
theorem dX4_tour_145 : decode cX4_tour 145 = .ok (.getfield 19, 3) := by decide +kernel
theorem dX4_tour_148 : decode cX4_tour 148 = .ok (.getfield 131, 3) := by decide +kernel
theorem dX4_tour_151 : decode cX4_tour 151 = .ok (.if_icmp .ne 7, 3) := by decide +kernel
theorem dX4_tour_154 : decode cX4_tour 154 = .ok (.iconst 1, 1) := by decide +kernel
theorem dX4_tour_155 : decode cX4_tour 155 = .ok (.goto 4, 3) := by decide +kernel
theorem dX4_tour_158 : decode cX4_tour 158 = .ok (.iconst 0, 1) := by decide +kernel
theorem dX4_tour_159 : decode cX4_tour 159 = .ok (.iadd, 1) := by decide +kernel
theorem dX4_tour_160 : decode cX4_tour 160 = .ok (.istore 5, 2) := by decide +kernel
theorem dX4_tour_162 : decode cX4_tour 162 = .ok (.iload 6, 2) := by decide +kernel
theorem dX4_tour_164 : decode cX4_tour 164 = .ok (.aload_n 0, 1) := by decide +kernel
theorem dX4_tour_165 : decode cX4_tour 165 = .ok (.getfield 44, 3) := by decide +kernel
theorem dX4_tour_168 : decode cX4_tour 168 = .ok (.getfield 134, 3) := by decide +kernel
theorem dX4_tour_171 : decode cX4_tour 171 = .ok (.invokestatic 211, 3) := by decide +kernel
theorem dX4_tour_174 : decode cX4_tour 174 = .ok (.istore 6, 2) := by decide +kernel
theorem dX4_tour_176 : decode cX4_tour 176 = .ok (.iinc 7 1, 3) := by decide +kernel
theorem dX4_tour_179 : decode cX4_tour 179 = .ok (.goto (-106), 3) := by decide +kernel
theorem dX4_tour_182 : decode cX4_tour 182 = .ok (.iload_n 3, 1) := by decide +kernel
theorem dX4_tour_183 : decode cX4_tour 183 = .ok (.ifCond .ne 8, 3) := by decide +kernel
theorem dX4_tour_186 : decode cX4_tour 186 = .ok (.iload 5, 2) := by decide +kernel
theorem dX4_tour_188 : decode cX4_tour 188 = .ok (.goto 5, 3) := by decide +kernel
theorem dX4_tour_191 : decode cX4_tour 191 = .ok (.iload 6, 2) := by decide +kernel
theorem dX4_tour_193 : decode cX4_tour 193 = .ok (.ireturn, 1) := by decide +kernel
theorem dX4_keep_0 : decode cX4_keep 0 = .ok (.aload_n 0, 1) := by decide +kernel
theorem dX4_keep_1 : decode cX4_keep 1 = .ok (.getfield 220, 3) := by decide +kernel
theorem dX4_keep_4 : decode cX4_keep 4 = .ok (.iconst 2, 1) := by decide +kernel
theorem dX4_keep_5 : decode cX4_keep 5 = .ok (.if_icmp .lt 6, 3) := by decide +kernel
theorem dX4_keep_8 : decode cX4_keep 8 = .ok (.bipush (-3), 2) := by decide +kernel
theorem dX4_keep_10 : decode cX4_keep 10 = .ok (.ireturn, 1) := by decide +kernel
theorem dX4_keep_11 : decode cX4_keep 11 = .ok (.aload_n 0, 1) := by decide +kernel
theorem dX4_keep_12 : decode cX4_keep 12 = .ok (.getfield 23, 3) := by decide +kernel
theorem dX4_keep_15 : decode cX4_keep 15 = .ok (.iconst 0, 1) := by decide +kernel
theorem dX4_keep_16 : decode cX4_keep 16 = .ok (.aload_n 0, 1) := by decide +kernel
theorem dX4_keep_17 : decode cX4_keep 17 = .ok (.getfield 61, 3) := by decide +kernel
theorem dX4_keep_20 : decode cX4_keep 20 = .ok (.aload_n 0, 1) := by decide +kernel
theorem dX4_keep_21 : decode cX4_keep 21 = .ok (.getfield 220, 3) := by decide +kernel
theorem dX4_keep_24 : decode cX4_keep 24 = .ok (.aaload, 1) := by decide +kernel
theorem dX4_keep_25 : decode cX4_keep 25 = .ok (.iconst 0, 1) := by decide +kernel
theorem dX4_keep_26 : decode cX4_keep 26 = .ok (.aload_n 0, 1) := by decide +kernel
theorem dX4_keep_27 : decode cX4_keep 27 = .ok (.getfield 23, 3) := by decide +kernel
theorem dX4_keep_30 : decode cX4_keep 30 = .ok (.arraylength, 1) := by decide +kernel
theorem dX4_keep_31 : decode cX4_keep 31 = .ok (.invokestatic 170, 3) := by decide +kernel
theorem dX4_keep_34 : decode cX4_keep 34 = .ok (.aload_n 0, 1) := by decide +kernel
theorem dX4_keep_35 : decode cX4_keep 35 = .ok (.getfield 64, 3) := by decide +kernel
theorem dX4_keep_38 : decode cX4_keep 38 = .ok (.aload_n 0, 1) := by decide +kernel
theorem dX4_keep_39 : decode cX4_keep 39 = .ok (.getfield 220, 3) := by decide +kernel
theorem dX4_keep_42 : decode cX4_keep 42 = .ok (.aload_n 0, 1) := by decide +kernel
theorem dX4_keep_43 : decode cX4_keep 43 = .ok (.getfield 113, 3) := by decide +kernel
theorem dX4_keep_46 : decode cX4_keep 46 = .ok (.iastore, 1) := by decide +kernel
theorem dX4_keep_47 : decode cX4_keep 47 = .ok (.aload_n 0, 1) := by decide +kernel
theorem dX4_keep_48 : decode cX4_keep 48 = .ok (.dup, 1) := by decide +kernel
theorem dX4_keep_49 : decode cX4_keep 49 = .ok (.getfield 220, 3) := by decide +kernel
theorem dX4_keep_52 : decode cX4_keep 52 = .ok (.iconst 1, 1) := by decide +kernel
theorem dX4_keep_53 : decode cX4_keep 53 = .ok (.iadd, 1) := by decide +kernel
theorem dX4_keep_54 : decode cX4_keep 54 = .ok (.putfield 220, 3) := by decide +kernel
theorem dX4_keep_57 : decode cX4_keep 57 = .ok (.aload_n 0, 1) := by decide +kernel
theorem dX4_keep_58 : decode cX4_keep 58 = .ok (.getfield 220, 3) := by decide +kernel
theorem dX4_keep_61 : decode cX4_keep 61 = .ok (.ireturn, 1) := by decide +kernel
theorem dX4_back_0 : decode cX4_back 0 = .ok (.aload_n 0, 1) := by decide +kernel
theorem dX4_back_1 : decode cX4_back 1 = .ok (.getfield 220, 3) := by decide +kernel
theorem dX4_back_4 : decode cX4_back 4 = .ok (.iconst 1, 1) := by decide +kernel
theorem dX4_back_5 : decode cX4_back 5 = .ok (.if_icmp .ge 6, 3) := by decide +kernel
theorem dX4_back_8 : decode cX4_back 8 = .ok (.bipush (-2), 2) := by decide +kernel
theorem dX4_back_10 : decode cX4_back 10 = .ok (.ireturn, 1) := by decide +kernel
theorem dX4_back_11 : decode cX4_back 11 = .ok (.aload_n 0, 1) := by decide +kernel
theorem dX4_back_12 : decode cX4_back 12 = .ok (.dup, 1) := by decide +kernel
theorem dX4_back_13 : decode cX4_back 13 = .ok (.getfield 220, 3) := by decide +kernel
theorem dX4_back_16 : decode cX4_back 16 = .ok (.iconst 1, 1) := by decide +kernel
theorem dX4_back_17 : decode cX4_back 17 = .ok (.isub, 1) := by decide +kernel
theorem dX4_back_18 : decode cX4_back 18 = .ok (.putfield 220, 3) := by decide +kernel
theorem dX4_back_21 : decode cX4_back 21 = .ok (.aload_n 0, 1) := by decide +kernel
theorem dX4_back_22 : decode cX4_back 22 = .ok (.getfield 61, 3) := by decide +kernel
theorem dX4_back_25 : decode cX4_back 25 = .ok (.aload_n 0, 1) := by decide +kernel
theorem dX4_back_26 : decode cX4_back 26 = .ok (.getfield 220, 3) := by decide +kernel
theorem dX4_back_29 : decode cX4_back 29 = .ok (.aaload, 1) := by decide +kernel
theorem dX4_back_30 : decode cX4_back 30 = .ok (.iconst 0, 1) := by decide +kernel
theorem dX4_back_31 : decode cX4_back 31 = .ok (.aload_n 0, 1) := by decide +kernel
theorem dX4_back_32 : decode cX4_back 32 = .ok (.getfield 23, 3) := by decide +kernel
theorem dX4_back_35 : decode cX4_back 35 = .ok (.iconst 0, 1) := by decide +kernel
theorem dX4_back_36 : decode cX4_back 36 = .ok (.aload_n 0, 1) := by decide +kernel
theorem dX4_back_37 : decode cX4_back 37 = .ok (.getfield 23, 3) := by decide +kernel
theorem dX4_back_40 : decode cX4_back 40 = .ok (.arraylength, 1) := by decide +kernel
theorem dX4_back_41 : decode cX4_back 41 = .ok (.invokestatic 170, 3) := by decide +kernel
theorem dX4_back_44 : decode cX4_back 44 = .ok (.aload_n 0, 1) := by decide +kernel
theorem dX4_back_45 : decode cX4_back 45 = .ok (.aload_n 0, 1) := by decide +kernel
theorem dX4_back_46 : decode cX4_back 46 = .ok (.getfield 64, 3) := by decide +kernel
theorem dX4_back_49 : decode cX4_back 49 = .ok (.aload_n 0, 1) := by decide +kernel
theorem dX4_back_50 : decode cX4_back 50 = .ok (.getfield 220, 3) := by decide +kernel
theorem dX4_back_53 : decode cX4_back 53 = .ok (.iaload, 1) := by decide +kernel
theorem dX4_back_54 : decode cX4_back 54 = .ok (.putfield 113, 3) := by decide +kernel
theorem dX4_back_57 : decode cX4_back 57 = .ok (.aload_n 0, 1) := by decide +kernel
theorem dX4_back_58 : decode cX4_back 58 = .ok (.iconst 0, 1) := by decide +kernel
theorem dX4_back_59 : decode cX4_back 59 = .ok (.putfield 154, 3) := by decide +kernel
theorem dX4_back_62 : decode cX4_back 62 = .ok (.aload_n 0, 1) := by decide +kernel
theorem dX4_back_63 : decode cX4_back 63 = .ok (.invokevirtual 148, 3) := by decide +kernel
theorem dX4_back_66 : decode cX4_back 66 = .ok (.aload_n 0, 1) := by decide +kernel
theorem dX4_back_67 : decode cX4_back 67 = .ok (.getfield 220, 3) := by decide +kernel
theorem dX4_back_70 : decode cX4_back 70 = .ok (.ireturn, 1) := by decide +kernel
theorem dX4_count_0 : decode cX4_count 0 = .ok (.iload_n 1, 1) := by decide +kernel
theorem dX4_count_1 : decode cX4_count 1 = .ok (.tableswitch 105 0 7 #[47, 55, 63, 74, 82, 87, 92, 97], 47) := by decide +kernel
theorem dX4_count_48 : decode cX4_count 48 = .ok (.aload_n 0, 1) := by decide +kernel
theorem dX4_count_49 : decode cX4_count 49 = .ok (.getfield 19, 3) := by decide +kernel
theorem dX4_count_52 : decode cX4_count 52 = .ok (.getfield 93, 3) := by decide +kernel
theorem dX4_count_55 : decode cX4_count 55 = .ok (.ireturn, 1) := by decide +kernel
theorem dX4_count_56 : decode cX4_count 56 = .ok (.aload_n 0, 1) := by decide +kernel
theorem dX4_count_57 : decode cX4_count 57 = .ok (.getfield 19, 3) := by decide +kernel
theorem dX4_count_60 : decode cX4_count 60 = .ok (.getfield 131, 3) := by decide +kernel
theorem dX4_count_63 : decode cX4_count 63 = .ok (.ireturn, 1) := by decide +kernel
theorem dX4_count_64 : decode cX4_count 64 = .ok (.aload_n 0, 1) := by decide +kernel
theorem dX4_count_65 : decode cX4_count 65 = .ok (.getfield 19, 3) := by decide +kernel
theorem dX4_count_68 : decode cX4_count 68 = .ok (.getfield 176, 3) := by decide +kernel
theorem dX4_count_71 : decode cX4_count 71 = .ok (.invokestatic 183, 3) := by decide +kernel
theorem dX4_count_74 : decode cX4_count 74 = .ok (.ireturn, 1) := by decide +kernel
theorem dX4_count_75 : decode cX4_count 75 = .ok (.aload_n 0, 1) := by decide +kernel
theorem dX4_count_76 : decode cX4_count 76 = .ok (.getfield 113, 3) := by decide +kernel
theorem dX4_count_79 : decode cX4_count 79 = .ok (.invokestatic 183, 3) := by decide +kernel
theorem dX4_count_82 : decode cX4_count 82 = .ok (.ireturn, 1) := by decide +kernel
theorem dX4_count_83 : decode cX4_count 83 = .ok (.aload_n 0, 1) := by decide +kernel
theorem dX4_count_84 : decode cX4_count 84 = .ok (.getfield 204, 3) := by decide +kernel
theorem dX4_count_87 : decode cX4_count 87 = .ok (.ireturn, 1) := by decide +kernel
theorem dX4_count_88 : decode cX4_count 88 = .ok (.aload_n 0, 1) := by decide +kernel
theorem dX4_count_89 : decode cX4_count 89 = .ok (.getfield 154, 3) := by decide +kernel
theorem dX4_count_92 : decode cX4_count 92 = .ok (.ireturn, 1) := by decide +kernel
theorem dX4_count_93 : decode cX4_count 93 = .ok (.aload_n 0, 1) := by decide +kernel
theorem dX4_count_94 : decode cX4_count 94 = .ok (.getfield 220, 3) := by decide +kernel
theorem dX4_count_97 : decode cX4_count 97 = .ok (.ireturn, 1) := by decide +kernel
theorem dX4_count_98 : decode cX4_count 98 = .ok (.aload_n 0, 1) := by decide +kernel
theorem dX4_count_99 : decode cX4_count 99 = .ok (.getfield 12, 3) := by decide +kernel
theorem dX4_count_102 : decode cX4_count 102 = .ok (.getfield 87, 3) := by decide +kernel
theorem dX4_count_105 : decode cX4_count 105 = .ok (.ireturn, 1) := by decide +kernel
theorem dX4_count_106 : decode cX4_count 106 = .ok (.iconst (-1), 1) := by decide +kernel
theorem dX4_count_107 : decode cX4_count 107 = .ok (.ireturn, 1) := by decide +kernel
theorem dX4_layText_0 : decode cX4_layText 0 = .ok (.aload_n 0, 1) := by decide +kernel
theorem dX4_layText_1 : decode cX4_layText 1 = .ok (.getfield 12, 3) := by decide +kernel
theorem dX4_layText_4 : decode cX4_layText 4 = .ok (.invokevirtual 90, 3) := by decide +kernel
theorem dX4_layText_7 : decode cX4_layText 7 = .ok (.bipush (-4), 2) := by decide +kernel
theorem dX4_layText_9 : decode cX4_layText 9 = .ok (.if_icmp .ne 16, 3) := by decide +kernel
theorem dX4_layText_12 : decode cX4_layText 12 = .ok (.aload_n 0, 1) := by decide +kernel
theorem dX4_layText_13 : decode cX4_layText 13 = .ok (.getfield 12, 3) := by decide +kernel
theorem dX4_layText_16 : decode cX4_layText 16 = .ok (.getfield 223, 3) := by decide +kernel
theorem dX4_layText_19 : decode cX4_layText 19 = .ok (.invokevirtual 226, 3) := by decide +kernel
theorem dX4_layText_22 : decode cX4_layText 22 = .ok (.ifCond .ne 5, 3) := by decide +kernel
theorem dX4_layText_25 : decode cX4_layText 25 = .ok (.iconst 0, 1) := by decide +kernel
theorem dX4_layText_26 : decode cX4_layText 26 = .ok (.ireturn, 1) := by decide +kernel
theorem dX4_layText_27 : decode cX4_layText 27 = .ok (.aload_n 0, 1) := by decide +kernel
theorem dX4_layText_28 : decode cX4_layText 28 = .ok (.getfield 19, 3) := by decide +kernel
theorem dX4_layText_31 : decode cX4_layText 31 = .ok (.aload_n 0, 1) := by decide +kernel
theorem dX4_layText_32 : decode cX4_layText 32 = .ok (.getfield 12, 3) := by decide +kernel
theorem dX4_layText_35 : decode cX4_layText 35 = .ok (.getfield 223, 3) := by decide +kernel
theorem dX4_layText_38 : decode cX4_layText 38 = .ok (.invokevirtual 229, 3) := by decide +kernel
theorem dX4_layText_41 : decode cX4_layText 41 = .ok (.aload_n 0, 1) := by decide +kernel
theorem dX4_layText_42 : decode cX4_layText 42 = .ok (.getfield 19, 3) := by decide +kernel
theorem dX4_layText_45 : decode cX4_layText 45 = .ok (.aload_n 0, 1) := by decide +kernel
theorem dX4_layText_46 : decode cX4_layText 46 = .ok (.getfield 23, 3) := by decide +kernel
theorem dX4_layText_49 : decode cX4_layText 49 = .ok (.invokevirtual 233, 3) := by decide +kernel
theorem dX4_layText_52 : decode cX4_layText 52 = .ok (.aload_n 0, 1) := by decide +kernel
theorem dX4_layText_53 : decode cX4_layText 53 = .ok (.iconst 0, 1) := by decide +kernel
theorem dX4_layText_54 : decode cX4_layText 54 = .ok (.putfield 113, 3) := by decide +kernel
theorem dX4_layText_57 : decode cX4_layText 57 = .ok (.aload_n 0, 1) := by decide +kernel
theorem dX4_layText_58 : decode cX4_layText 58 = .ok (.iconst 0, 1) := by decide +kernel
theorem dX4_layText_59 : decode cX4_layText 59 = .ok (.putfield 204, 3) := by decide +kernel
theorem dX4_layText_62 : decode cX4_layText 62 = .ok (.aload_n 0, 1) := by decide +kernel
theorem dX4_layText_63 : decode cX4_layText 63 = .ok (.iconst 0, 1) := by decide +kernel
theorem dX4_layText_64 : decode cX4_layText 64 = .ok (.putfield 154, 3) := by decide +kernel
theorem dX4_layText_67 : decode cX4_layText 67 = .ok (.aload_n 0, 1) := by decide +kernel
theorem dX4_layText_68 : decode cX4_layText 68 = .ok (.iconst 0, 1) := by decide +kernel
theorem dX4_layText_69 : decode cX4_layText 69 = .ok (.putfield 220, 3) := by decide +kernel
theorem dX4_layText_72 : decode cX4_layText 72 = .ok (.aload_n 0, 1) := by decide +kernel
theorem dX4_layText_73 : decode cX4_layText 73 = .ok (.invokevirtual 148, 3) := by decide +kernel
theorem dX4_layText_76 : decode cX4_layText 76 = .ok (.iconst 1, 1) := by decide +kernel
theorem dX4_layText_77 : decode cX4_layText 77 = .ok (.ireturn, 1) := by decide +kernel
theorem dX4_settle_0 : decode cX4_settle 0 = .ok (.aload_n 0, 1) := by decide +kernel
theorem dX4_settle_1 : decode cX4_settle 1 = .ok (.getfield 30, 3) := by decide +kernel
theorem dX4_settle_4 : decode cX4_settle 4 = .ok (.aload_n 0, 1) := by decide +kernel
theorem dX4_settle_5 : decode cX4_settle 5 = .ok (.getfield 19, 3) := by decide +kernel
theorem dX4_settle_8 : decode cX4_settle 8 = .ok (.aload_n 0, 1) := by decide +kernel
theorem dX4_settle_9 : decode cX4_settle 9 = .ok (.getfield 23, 3) := by decide +kernel
theorem dX4_settle_12 : decode cX4_settle 12 = .ok (.aload_n 0, 1) := by decide +kernel
theorem dX4_settle_13 : decode cX4_settle 13 = .ok (.getfield 19, 3) := by decide +kernel
theorem dX4_settle_16 : decode cX4_settle 16 = .ok (.getfield 176, 3) := by decide +kernel
theorem dX4_settle_19 : decode cX4_settle 19 = .ok (.aload_n 0, 1) := by decide +kernel
theorem dX4_settle_20 : decode cX4_settle 20 = .ok (.getfield 113, 3) := by decide +kernel
theorem dX4_settle_23 : decode cX4_settle 23 = .ok (.bipush 127, 2) := by decide +kernel
theorem dX4_settle_25 : decode cX4_settle 25 = .ok (.invokevirtual 179, 3) := by decide +kernel
theorem dX4_settle_28 : decode cX4_settle 28 = .ok (.aload_n 0, 1) := by decide +kernel
theorem dX4_settle_29 : decode cX4_settle 29 = .ok (.getfield 37, 3) := by decide +kernel
theorem dX4_settle_32 : decode cX4_settle 32 = .ok (.iconst 0, 1) := by decide +kernel
theorem dX4_settle_33 : decode cX4_settle 33 = .ok (.putfield 237, 3) := by decide +kernel
theorem dX4_settle_36 : decode cX4_settle 36 = .ok (.return_, 1) := by decide +kernel
theorem dX4_surveyed_0 : decode cX4_surveyed 0 = .ok (.aload_n 0, 1) := by decide +kernel
theorem dX4_surveyed_1 : decode cX4_surveyed 1 = .ok (.getfield 37, 3) := by decide +kernel
theorem dX4_surveyed_4 : decode cX4_surveyed 4 = .ok (.getfield 237, 3) := by decide +kernel
theorem dX4_surveyed_7 : decode cX4_surveyed 7 = .ok (.ifCond .ne 26, 3) := by decide +kernel
theorem dX4_surveyed_10 : decode cX4_surveyed 10 = .ok (.aload_n 0, 1) := by decide +kernel
theorem dX4_surveyed_11 : decode cX4_surveyed 11 = .ok (.getfield 37, 3) := by decide +kernel
theorem dX4_surveyed_14 : decode cX4_surveyed 14 = .ok (.aload_n 0, 1) := by decide +kernel
theorem dX4_surveyed_15 : decode cX4_surveyed 15 = .ok (.getfield 19, 3) := by decide +kernel
theorem dX4_surveyed_18 : decode cX4_surveyed 18 = .ok (.aload_n 0, 1) := by decide +kernel
theorem dX4_surveyed_19 : decode cX4_surveyed 19 = .ok (.getfield 23, 3) := by decide +kernel
theorem dX4_surveyed_22 : decode cX4_surveyed 22 = .ok (.aload_n 0, 1) := by decide +kernel
theorem dX4_surveyed_23 : decode cX4_surveyed 23 = .ok (.getfield 113, 3) := by decide +kernel
theorem dX4_surveyed_26 : decode cX4_surveyed 26 = .ok (.aload_n 0, 1) := by decide +kernel
theorem dX4_surveyed_27 : decode cX4_surveyed 27 = .ok (.getfield 30, 3) := by decide +kernel
theorem dX4_surveyed_30 : decode cX4_surveyed 30 = .ok (.invokevirtual 241, 3) := by decide +kernel
theorem dX4_surveyed_33 : decode cX4_surveyed 33 = .ok (.aload_n 0, 1) := by decide +kernel
theorem dX4_surveyed_34 : decode cX4_surveyed 34 = .ok (.getfield 37, 3) := by decide +kernel
theorem dX4_surveyed_37 : decode cX4_surveyed 37 = .ok (.areturn, 1) := by decide +kernel
theorem dX4_remember_0 : decode cX4_remember 0 = .ok (.aload_n 0, 1) := by decide +kernel
theorem dX4_remember_1 : decode cX4_remember 1 = .ok (.getfield 154, 3) := by decide +kernel
theorem dX4_remember_4 : decode cX4_remember 4 = .ok (.bipush 8, 2) := by decide +kernel
theorem dX4_remember_6 : decode cX4_remember 6 = .ok (.if_icmp .lt 24, 3) := by decide +kernel
theorem dX4_remember_9 : decode cX4_remember 9 = .ok (.aload_n 0, 1) := by decide +kernel
theorem dX4_remember_10 : decode cX4_remember 10 = .ok (.getfield 47, 3) := by decide +kernel
theorem dX4_remember_13 : decode cX4_remember 13 = .ok (.iconst 1, 1) := by decide +kernel
theorem dX4_remember_14 : decode cX4_remember 14 = .ok (.aload_n 0, 1) := by decide +kernel
theorem dX4_remember_15 : decode cX4_remember 15 = .ok (.getfield 47, 3) := by decide +kernel
theorem dX4_remember_18 : decode cX4_remember 18 = .ok (.iconst 0, 1) := by decide +kernel
theorem dX4_remember_19 : decode cX4_remember 19 = .ok (.bipush 7, 2) := by decide +kernel
theorem dX4_remember_21 : decode cX4_remember 21 = .ok (.invokestatic 170, 3) := by decide +kernel
theorem dX4_remember_24 : decode cX4_remember 24 = .ok (.aload_n 0, 1) := by decide +kernel
theorem dX4_remember_25 : decode cX4_remember 25 = .ok (.bipush 7, 2) := by decide +kernel
theorem dX4_remember_27 : decode cX4_remember 27 = .ok (.putfield 154, 3) := by decide +kernel
theorem dX4_remember_30 : decode cX4_remember 30 = .ok (.aload_n 0, 1) := by decide +kernel
theorem dX4_remember_31 : decode cX4_remember 31 = .ok (.getfield 47, 3) := by decide +kernel
theorem dX4_remember_34 : decode cX4_remember 34 = .ok (.aload_n 0, 1) := by decide +kernel
theorem dX4_remember_35 : decode cX4_remember 35 = .ok (.getfield 154, 3) := by decide +kernel
theorem dX4_remember_38 : decode cX4_remember 38 = .ok (.iload_n 1, 1) := by decide +kernel
theorem dX4_remember_39 : decode cX4_remember 39 = .ok (.iastore, 1) := by decide +kernel
theorem dX4_remember_40 : decode cX4_remember 40 = .ok (.aload_n 0, 1) := by decide +kernel
theorem dX4_remember_41 : decode cX4_remember 41 = .ok (.dup, 1) := by decide +kernel
theorem dX4_remember_42 : decode cX4_remember 42 = .ok (.getfield 154, 3) := by decide +kernel
theorem dX4_remember_45 : decode cX4_remember 45 = .ok (.iconst 1, 1) := by decide +kernel
theorem dX4_remember_46 : decode cX4_remember 46 = .ok (.iadd, 1) := by decide +kernel
theorem dX4_remember_47 : decode cX4_remember 47 = .ok (.putfield 154, 3) := by decide +kernel
theorem dX4_remember_50 : decode cX4_remember 50 = .ok (.return_, 1) := by decide +kernel
theorem dX4_isInstrument_0 : decode cX4_isInstrument 0 = .ok (.iload_n 1, 1) := by decide +kernel
theorem dX4_isInstrument_1 : decode cX4_isInstrument 1 = .ok (.ifCond .lt 18, 3) := by decide +kernel
theorem dX4_isInstrument_4 : decode cX4_isInstrument 4 = .ok (.iload_n 1, 1) := by decide +kernel
theorem dX4_isInstrument_5 : decode cX4_isInstrument 5 = .ok (.aload_n 0, 1) := by decide +kernel
theorem dX4_isInstrument_6 : decode cX4_isInstrument 6 = .ok (.getfield 19, 3) := by decide +kernel
theorem dX4_isInstrument_9 : decode cX4_isInstrument 9 = .ok (.getfield 93, 3) := by decide +kernel
theorem dX4_isInstrument_12 : decode cX4_isInstrument 12 = .ok (.if_icmp .ge 7, 3) := by decide +kernel
theorem dX4_isInstrument_15 : decode cX4_isInstrument 15 = .ok (.iconst 1, 1) := by decide +kernel
theorem dX4_isInstrument_16 : decode cX4_isInstrument 16 = .ok (.goto 4, 3) := by decide +kernel
theorem dX4_isInstrument_19 : decode cX4_isInstrument 19 = .ok (.iconst 0, 1) := by decide +kernel
theorem dX4_isInstrument_20 : decode cX4_isInstrument 20 = .ok (.ireturn, 1) := by decide +kernel
theorem dX4_isBar_0 : decode cX4_isBar 0 = .ok (.iload_n 1, 1) := by decide +kernel
theorem dX4_isBar_1 : decode cX4_isBar 1 = .ok (.ifCond .lt 18, 3) := by decide +kernel
theorem dX4_isBar_4 : decode cX4_isBar 4 = .ok (.iload_n 1, 1) := by decide +kernel
theorem dX4_isBar_5 : decode cX4_isBar 5 = .ok (.aload_n 0, 1) := by decide +kernel
theorem dX4_isBar_6 : decode cX4_isBar 6 = .ok (.getfield 19, 3) := by decide +kernel
theorem dX4_isBar_9 : decode cX4_isBar 9 = .ok (.getfield 131, 3) := by decide +kernel
theorem dX4_isBar_12 : decode cX4_isBar 12 = .ok (.if_icmp .ge 7, 3) := by decide +kernel
theorem dX4_isBar_15 : decode cX4_isBar 15 = .ok (.iconst 1, 1) := by decide +kernel
theorem dX4_isBar_16 : decode cX4_isBar 16 = .ok (.goto 4, 3) := by decide +kernel
theorem dX4_isBar_19 : decode cX4_isBar 19 = .ok (.iconst 0, 1) := by decide +kernel
theorem dX4_isBar_20 : decode cX4_isBar 20 = .ok (.ireturn, 1) := by decide +kernel
theorem dX4_seatOf_0 : decode cX4_seatOf 0 = .ok (.iconst 0, 1) := by decide +kernel
theorem dX4_seatOf_1 : decode cX4_seatOf 1 = .ok (.istore_n 2, 1) := by decide +kernel
theorem dX4_seatOf_2 : decode cX4_seatOf 2 = .ok (.iload_n 2, 1) := by decide +kernel
theorem dX4_seatOf_3 : decode cX4_seatOf 3 = .ok (.aload_n 0, 1) := by decide +kernel
theorem dX4_seatOf_4 : decode cX4_seatOf 4 = .ok (.getfield 19, 3) := by decide +kernel
theorem dX4_seatOf_7 : decode cX4_seatOf 7 = .ok (.getfield 93, 3) := by decide +kernel
theorem dX4_seatOf_10 : decode cX4_seatOf 10 = .ok (.iconst 1, 1) := by decide +kernel
theorem dX4_seatOf_11 : decode cX4_seatOf 11 = .ok (.isub, 1) := by decide +kernel
theorem dX4_seatOf_12 : decode cX4_seatOf 12 = .ok (.if_icmp .ge 19, 3) := by decide +kernel
theorem dX4_seatOf_15 : decode cX4_seatOf 15 = .ok (.aload_n 0, 1) := by decide +kernel
theorem dX4_seatOf_16 : decode cX4_seatOf 16 = .ok (.getfield 23, 3) := by decide +kernel
theorem dX4_seatOf_19 : decode cX4_seatOf 19 = .ok (.iload_n 2, 1) := by decide +kernel
theorem dX4_seatOf_20 : decode cX4_seatOf 20 = .ok (.iaload, 1) := by decide +kernel
theorem dX4_seatOf_21 : decode cX4_seatOf 21 = .ok (.iload_n 1, 1) := by decide +kernel
theorem dX4_seatOf_22 : decode cX4_seatOf 22 = .ok (.if_icmp .eq 9, 3) := by decide +kernel
theorem dX4_seatOf_25 : decode cX4_seatOf 25 = .ok (.iinc 2 1, 3) := by decide +kernel
theorem dX4_seatOf_28 : decode cX4_seatOf 28 = .ok (.goto (-26), 3) := by decide +kernel
theorem dX4_seatOf_31 : decode cX4_seatOf 31 = .ok (.iload_n 2, 1) := by decide +kernel
theorem dX4_seatOf_32 : decode cX4_seatOf 32 = .ok (.ireturn, 1) := by decide +kernel
theorem dX4_missingIn_0 : decode cX4_missingIn 0 = .ok (.aload_n 0, 1) := by decide +kernel
theorem dX4_missingIn_1 : decode cX4_missingIn 1 = .ok (.getfield 19, 3) := by decide +kernel
theorem dX4_missingIn_4 : decode cX4_missingIn 4 = .ok (.getfield 122, 3) := by decide +kernel
theorem dX4_missingIn_7 : decode cX4_missingIn 7 = .ok (.iload_n 1, 1) := by decide +kernel
theorem dX4_missingIn_8 : decode cX4_missingIn 8 = .ok (.iaload, 1) := by decide +kernel
theorem dX4_missingIn_9 : decode cX4_missingIn 9 = .ok (.aload_n 0, 1) := by decide +kernel
theorem dX4_missingIn_10 : decode cX4_missingIn 10 = .ok (.getfield 30, 3) := by decide +kernel
theorem dX4_missingIn_13 : decode cX4_missingIn 13 = .ok (.getfield 125, 3) := by decide +kernel
theorem dX4_missingIn_16 : decode cX4_missingIn 16 = .ok (.iload_n 1, 1) := by decide +kernel
theorem dX4_missingIn_17 : decode cX4_missingIn 17 = .ok (.iaload, 1) := by decide +kernel
theorem dX4_missingIn_18 : decode cX4_missingIn 18 = .ok (.iconst (-1), 1) := by decide +kernel
theorem dX4_missingIn_19 : decode cX4_missingIn 19 = .ok (.ixor, 1) := by decide +kernel
theorem dX4_missingIn_20 : decode cX4_missingIn 20 = .ok (.iand, 1) := by decide +kernel
theorem dX4_missingIn_21 : decode cX4_missingIn 21 = .ok (.ireturn, 1) := by decide +kernel
theorem dX4_priceOf_0 : decode cX4_priceOf 0 = .ok (.iconst 0, 1) := by decide +kernel
theorem dX4_priceOf_1 : decode cX4_priceOf 1 = .ok (.istore_n 2, 1) := by decide +kernel
theorem dX4_priceOf_2 : decode cX4_priceOf 2 = .ok (.iconst 0, 1) := by decide +kernel
theorem dX4_priceOf_3 : decode cX4_priceOf 3 = .ok (.istore_n 3, 1) := by decide +kernel
theorem dX4_priceOf_4 : decode cX4_priceOf 4 = .ok (.iload_n 3, 1) := by decide +kernel
theorem dX4_priceOf_5 : decode cX4_priceOf 5 = .ok (.aload_n 0, 1) := by decide +kernel
theorem dX4_priceOf_6 : decode cX4_priceOf 6 = .ok (.getfield 19, 3) := by decide +kernel
theorem dX4_priceOf_9 : decode cX4_priceOf 9 = .ok (.getfield 93, 3) := by decide +kernel
theorem dX4_priceOf_12 : decode cX4_priceOf 12 = .ok (.if_icmp .ge 27, 3) := by decide +kernel
theorem dX4_priceOf_15 : decode cX4_priceOf 15 = .ok (.iload_n 2, 1) := by decide +kernel
theorem dX4_priceOf_16 : decode cX4_priceOf 16 = .ok (.iload_n 1, 1) := by decide +kernel
theorem dX4_priceOf_17 : decode cX4_priceOf 17 = .ok (.iload_n 3, 1) := by decide +kernel
theorem dX4_priceOf_18 : decode cX4_priceOf 18 = .ok (.ishr, 1) := by decide +kernel
theorem dX4_priceOf_19 : decode cX4_priceOf 19 = .ok (.iconst 1, 1) := by decide +kernel
theorem dX4_priceOf_20 : decode cX4_priceOf 20 = .ok (.iand, 1) := by decide +kernel
theorem dX4_priceOf_21 : decode cX4_priceOf 21 = .ok (.aload_n 0, 1) := by decide +kernel
theorem dX4_priceOf_22 : decode cX4_priceOf 22 = .ok (.getfield 19, 3) := by decide +kernel
theorem dX4_priceOf_25 : decode cX4_priceOf 25 = .ok (.getfield 106, 3) := by decide +kernel
theorem dX4_priceOf_28 : decode cX4_priceOf 28 = .ok (.iload_n 3, 1) := by decide +kernel
theorem dX4_priceOf_29 : decode cX4_priceOf 29 = .ok (.iaload, 1) := by decide +kernel
theorem dX4_priceOf_30 : decode cX4_priceOf 30 = .ok (.imul, 1) := by decide +kernel
theorem dX4_priceOf_31 : decode cX4_priceOf 31 = .ok (.iadd, 1) := by decide +kernel
theorem dX4_priceOf_32 : decode cX4_priceOf 32 = .ok (.istore_n 2, 1) := by decide +kernel
theorem dX4_priceOf_33 : decode cX4_priceOf 33 = .ok (.iinc 3 1, 3) := by decide +kernel
theorem dX4_priceOf_36 : decode cX4_priceOf 36 = .ok (.goto (-32), 3) := by decide +kernel
theorem dX4_priceOf_39 : decode cX4_priceOf 39 = .ok (.iload_n 2, 1) := by decide +kernel
theorem dX4_priceOf_40 : decode cX4_priceOf 40 = .ok (.ireturn, 1) := by decide +kernel
theorem dX4_agreesWithHeard_0 : decode cX4_agreesWithHeard 0 = .ok (.iconst 0, 1) := by decide +kernel
theorem dX4_agreesWithHeard_1 : decode cX4_agreesWithHeard 1 = .ok (.istore_n 3, 1) := by decide +kernel
theorem dX4_agreesWithHeard_2 : decode cX4_agreesWithHeard 2 = .ok (.iload_n 3, 1) := by decide +kernel
theorem dX4_agreesWithHeard_3 : decode cX4_agreesWithHeard 3 = .ok (.aload_n 0, 1) := by decide +kernel
theorem dX4_agreesWithHeard_4 : decode cX4_agreesWithHeard 4 = .ok (.getfield 204, 3) := by decide +kernel
theorem dX4_agreesWithHeard_7 : decode cX4_agreesWithHeard 7 = .ok (.if_icmp .ge 45, 3) := by decide +kernel
theorem dX4_agreesWithHeard_10 : decode cX4_agreesWithHeard 10 = .ok (.aload_n 0, 1) := by decide +kernel
theorem dX4_agreesWithHeard_11 : decode cX4_agreesWithHeard 11 = .ok (.getfield 50, 3) := by decide +kernel
theorem dX4_agreesWithHeard_14 : decode cX4_agreesWithHeard 14 = .ok (.iload_n 3, 1) := by decide +kernel
theorem dX4_agreesWithHeard_15 : decode cX4_agreesWithHeard 15 = .ok (.iaload, 1) := by decide +kernel
theorem dX4_agreesWithHeard_16 : decode cX4_agreesWithHeard 16 = .ok (.iload_n 1, 1) := by decide +kernel
theorem dX4_agreesWithHeard_17 : decode cX4_agreesWithHeard 17 = .ok (.if_icmp .ne 29, 3) := by decide +kernel
theorem dX4_agreesWithHeard_20 : decode cX4_agreesWithHeard 20 = .ok (.aload_n 2, 1) := by decide +kernel
theorem dX4_agreesWithHeard_21 : decode cX4_agreesWithHeard 21 = .ok (.getfield 125, 3) := by decide +kernel
theorem dX4_agreesWithHeard_24 : decode cX4_agreesWithHeard 24 = .ok (.aload_n 0, 1) := by decide +kernel
theorem dX4_agreesWithHeard_25 : decode cX4_agreesWithHeard 25 = .ok (.getfield 53, 3) := by decide +kernel
theorem dX4_agreesWithHeard_28 : decode cX4_agreesWithHeard 28 = .ok (.iload_n 3, 1) := by decide +kernel
theorem dX4_agreesWithHeard_29 : decode cX4_agreesWithHeard 29 = .ok (.iaload, 1) := by decide +kernel
theorem dX4_agreesWithHeard_30 : decode cX4_agreesWithHeard 30 = .ok (.iaload, 1) := by decide +kernel
theorem dX4_agreesWithHeard_31 : decode cX4_agreesWithHeard 31 = .ok (.iload_n 1, 1) := by decide +kernel
theorem dX4_agreesWithHeard_32 : decode cX4_agreesWithHeard 32 = .ok (.ishr, 1) := by decide +kernel
theorem dX4_agreesWithHeard_33 : decode cX4_agreesWithHeard 33 = .ok (.iconst 1, 1) := by decide +kernel
theorem dX4_agreesWithHeard_34 : decode cX4_agreesWithHeard 34 = .ok (.iand, 1) := by decide +kernel
theorem dX4_agreesWithHeard_35 : decode cX4_agreesWithHeard 35 = .ok (.aload_n 0, 1) := by decide +kernel
theorem dX4_agreesWithHeard_36 : decode cX4_agreesWithHeard 36 = .ok (.getfield 56, 3) := by decide +kernel
theorem dX4_agreesWithHeard_39 : decode cX4_agreesWithHeard 39 = .ok (.iload_n 3, 1) := by decide +kernel
theorem dX4_agreesWithHeard_40 : decode cX4_agreesWithHeard 40 = .ok (.iaload, 1) := by decide +kernel
theorem dX4_agreesWithHeard_41 : decode cX4_agreesWithHeard 41 = .ok (.if_icmp .eq 5, 3) := by decide +kernel
theorem dX4_agreesWithHeard_44 : decode cX4_agreesWithHeard 44 = .ok (.iconst 0, 1) := by decide +kernel
theorem dX4_agreesWithHeard_45 : decode cX4_agreesWithHeard 45 = .ok (.ireturn, 1) := by decide +kernel
theorem dX4_agreesWithHeard_46 : decode cX4_agreesWithHeard 46 = .ok (.iinc 3 1, 3) := by decide +kernel
theorem dX4_agreesWithHeard_49 : decode cX4_agreesWithHeard 49 = .ok (.goto (-47), 3) := by decide +kernel
theorem dX4_agreesWithHeard_52 : decode cX4_agreesWithHeard 52 = .ok (.iconst 1, 1) := by decide +kernel
theorem dX4_agreesWithHeard_53 : decode cX4_agreesWithHeard 53 = .ok (.ireturn, 1) := by decide +kernel
theorem dX4_draw_0 : decode cX4_draw 0 = .ok (.ldc2_w 245, 3) := by decide +kernel
theorem dX4_draw_3 : decode cX4_draw 3 = .ok (.iload_n 0, 1) := by decide +kernel
theorem dX4_draw_4 : decode cX4_draw 4 = .ok (.i2l, 1) := by decide +kernel
theorem dX4_draw_5 : decode cX4_draw 5 = .ok (.lmul, 1) := by decide +kernel
theorem dX4_draw_6 : decode cX4_draw 6 = .ok (.ldc2_w 247, 3) := by decide +kernel
theorem dX4_draw_9 : decode cX4_draw 9 = .ok (.iload_n 1, 1) := by decide +kernel
theorem dX4_draw_10 : decode cX4_draw 10 = .ok (.i2l, 1) := by decide +kernel
theorem dX4_draw_11 : decode cX4_draw 11 = .ok (.lmul, 1) := by decide +kernel
theorem dX4_draw_12 : decode cX4_draw 12 = .ok (.ladd, 1) := by decide +kernel
theorem dX4_draw_13 : decode cX4_draw 13 = .ok (.lconst 1, 1) := by decide +kernel
theorem dX4_draw_14 : decode cX4_draw 14 = .ok (.ladd, 1) := by decide +kernel
theorem dX4_draw_15 : decode cX4_draw 15 = .ok (.lstore_n 2, 1) := by decide +kernel
theorem dX4_draw_16 : decode cX4_draw 16 = .ok (.lload_n 2, 1) := by decide +kernel
theorem dX4_draw_17 : decode cX4_draw 17 = .ok (.lload_n 2, 1) := by decide +kernel
theorem dX4_draw_18 : decode cX4_draw 18 = .ok (.lmul, 1) := by decide +kernel
theorem dX4_draw_19 : decode cX4_draw 19 = .ok (.ldc2_w 249, 3) := by decide +kernel
theorem dX4_draw_22 : decode cX4_draw 22 = .ok (.lrem, 1) := by decide +kernel
theorem dX4_draw_23 : decode cX4_draw 23 = .ok (.ldc2_w 251, 3) := by decide +kernel
theorem dX4_draw_26 : decode cX4_draw 26 = .ok (.ldiv, 1) := by decide +kernel
theorem dX4_draw_27 : decode cX4_draw 27 = .ok (.l2i, 1) := by decide +kernel
theorem dX4_draw_28 : decode cX4_draw 28 = .ok (.ireturn, 1) := by decide +kernel
theorem dX4_swapSeats_0 : decode cX4_swapSeats 0 = .ok (.aload_n 0, 1) := by decide +kernel
theorem dX4_swapSeats_1 : decode cX4_swapSeats 1 = .ok (.iload_n 1, 1) := by decide +kernel
theorem dX4_swapSeats_2 : decode cX4_swapSeats 2 = .ok (.iaload, 1) := by decide +kernel
theorem dX4_swapSeats_3 : decode cX4_swapSeats 3 = .ok (.istore_n 3, 1) := by decide +kernel
theorem dX4_swapSeats_4 : decode cX4_swapSeats 4 = .ok (.aload_n 0, 1) := by decide +kernel
theorem dX4_swapSeats_5 : decode cX4_swapSeats 5 = .ok (.iload_n 1, 1) := by decide +kernel
theorem dX4_swapSeats_6 : decode cX4_swapSeats 6 = .ok (.aload_n 0, 1) := by decide +kernel
theorem dX4_swapSeats_7 : decode cX4_swapSeats 7 = .ok (.iload_n 2, 1) := by decide +kernel
theorem dX4_swapSeats_8 : decode cX4_swapSeats 8 = .ok (.iaload, 1) := by decide +kernel
theorem dX4_swapSeats_9 : decode cX4_swapSeats 9 = .ok (.iastore, 1) := by decide +kernel
theorem dX4_swapSeats_10 : decode cX4_swapSeats 10 = .ok (.aload_n 0, 1) := by decide +kernel
theorem dX4_swapSeats_11 : decode cX4_swapSeats 11 = .ok (.iload_n 2, 1) := by decide +kernel
theorem dX4_swapSeats_12 : decode cX4_swapSeats 12 = .ok (.iload_n 3, 1) := by decide +kernel
theorem dX4_swapSeats_13 : decode cX4_swapSeats 13 = .ok (.iastore, 1) := by decide +kernel
theorem dX4_swapSeats_14 : decode cX4_swapSeats 14 = .ok (.return_, 1) := by decide +kernel
theorem dX4_inLowestTerms_0 : decode cX4_inLowestTerms 0 = .ok (.iload_n 1, 1) := by decide +kernel
theorem dX4_inLowestTerms_1 : decode cX4_inLowestTerms 1 = .ok (.istore_n 3, 1) := by decide +kernel
theorem dX4_inLowestTerms_2 : decode cX4_inLowestTerms 2 = .ok (.iload_n 0, 1) := by decide +kernel
theorem dX4_inLowestTerms_3 : decode cX4_inLowestTerms 3 = .ok (.istore 4, 2) := by decide +kernel
theorem dX4_inLowestTerms_5 : decode cX4_inLowestTerms 5 = .ok (.iconst 0, 1) := by decide +kernel
theorem dX4_inLowestTerms_6 : decode cX4_inLowestTerms 6 = .ok (.istore 5, 2) := by decide +kernel
theorem dX4_inLowestTerms_8 : decode cX4_inLowestTerms 8 = .ok (.iload 5, 2) := by decide +kernel
theorem dX4_inLowestTerms_10 : decode cX4_inLowestTerms 10 = .ok (.bipush 64, 2) := by decide +kernel
theorem dX4_inLowestTerms_12 : decode cX4_inLowestTerms 12 = .ok (.if_icmp .ge 27, 3) := by decide +kernel
theorem dX4_inLowestTerms_15 : decode cX4_inLowestTerms 15 = .ok (.iload 4, 2) := by decide +kernel
theorem dX4_inLowestTerms_17 : decode cX4_inLowestTerms 17 = .ok (.ifCond .le 22, 3) := by decide +kernel
theorem dX4_inLowestTerms_20 : decode cX4_inLowestTerms 20 = .ok (.iload_n 3, 1) := by decide +kernel
theorem dX4_inLowestTerms_21 : decode cX4_inLowestTerms 21 = .ok (.iload 4, 2) := by decide +kernel
theorem dX4_inLowestTerms_23 : decode cX4_inLowestTerms 23 = .ok (.irem, 1) := by decide +kernel
theorem dX4_inLowestTerms_24 : decode cX4_inLowestTerms 24 = .ok (.istore 6, 2) := by decide +kernel
theorem dX4_inLowestTerms_26 : decode cX4_inLowestTerms 26 = .ok (.iload 4, 2) := by decide +kernel
theorem dX4_inLowestTerms_28 : decode cX4_inLowestTerms 28 = .ok (.istore_n 3, 1) := by decide +kernel
theorem dX4_inLowestTerms_29 : decode cX4_inLowestTerms 29 = .ok (.iload 6, 2) := by decide +kernel
theorem dX4_inLowestTerms_31 : decode cX4_inLowestTerms 31 = .ok (.istore 4, 2) := by decide +kernel
theorem dX4_inLowestTerms_33 : decode cX4_inLowestTerms 33 = .ok (.iinc 5 1, 3) := by decide +kernel
theorem dX4_inLowestTerms_36 : decode cX4_inLowestTerms 36 = .ok (.goto (-28), 3) := by decide +kernel
theorem dX4_inLowestTerms_39 : decode cX4_inLowestTerms 39 = .ok (.iload_n 3, 1) := by decide +kernel
theorem dX4_inLowestTerms_40 : decode cX4_inLowestTerms 40 = .ok (.iconst 1, 1) := by decide +kernel
theorem dX4_inLowestTerms_41 : decode cX4_inLowestTerms 41 = .ok (.if_icmp .ge 7, 3) := by decide +kernel
theorem dX4_inLowestTerms_44 : decode cX4_inLowestTerms 44 = .ok (.iconst 0, 1) := by decide +kernel
theorem dX4_inLowestTerms_45 : decode cX4_inLowestTerms 45 = .ok (.goto 14, 3) := by decide +kernel
theorem dX4_inLowestTerms_48 : decode cX4_inLowestTerms 48 = .ok (.iload_n 2, 1) := by decide +kernel
theorem dX4_inLowestTerms_49 : decode cX4_inLowestTerms 49 = .ok (.ifCond .ne 7, 3) := by decide +kernel
theorem dX4_inLowestTerms_52 : decode cX4_inLowestTerms 52 = .ok (.iload_n 0, 1) := by decide +kernel
theorem dX4_inLowestTerms_53 : decode cX4_inLowestTerms 53 = .ok (.goto 4, 3) := by decide +kernel
theorem dX4_inLowestTerms_56 : decode cX4_inLowestTerms 56 = .ok (.iload_n 1, 1) := by decide +kernel
theorem dX4_inLowestTerms_57 : decode cX4_inLowestTerms 57 = .ok (.iload_n 3, 1) := by decide +kernel
theorem dX4_inLowestTerms_58 : decode cX4_inLowestTerms 58 = .ok (.idiv, 1) := by decide +kernel
theorem dX4_inLowestTerms_59 : decode cX4_inLowestTerms 59 = .ok (.ireturn, 1) := by decide +kernel
theorem dX5_init_0 : decode cX5_init 0 = .ok (.aload_n 0, 1) := by decide +kernel
theorem dX5_init_1 : decode cX5_init 1 = .ok (.invokespecial 1, 3) := by decide +kernel
theorem dX5_init_4 : decode cX5_init 4 = .ok (.aload_n 0, 1) := by decide +kernel
theorem dX5_init_5 : decode cX5_init 5 = .ok (.sipush 200, 3) := by decide +kernel
theorem dX5_init_8 : decode cX5_init 8 = .ok (.newarray .int, 2) := by decide +kernel
theorem dX5_init_10 : decode cX5_init 10 = .ok (.putfield 7, 3) := by decide +kernel
theorem dX5_init_13 : decode cX5_init 13 = .ok (.aload_n 0, 1) := by decide +kernel
theorem dX5_init_14 : decode cX5_init 14 = .ok (.bipush 40, 2) := by decide +kernel
theorem dX5_init_16 : decode cX5_init 16 = .ok (.newarray .int, 2) := by decide +kernel
theorem dX5_init_18 : decode cX5_init 18 = .ok (.putfield 13, 3) := by decide +kernel
theorem dX5_init_21 : decode cX5_init 21 = .ok (.aload_n 0, 1) := by decide +kernel
theorem dX5_init_22 : decode cX5_init 22 = .ok (.bipush 40, 2) := by decide +kernel
theorem dX5_init_24 : decode cX5_init 24 = .ok (.newarray .int, 2) := by decide +kernel
theorem dX5_init_26 : decode cX5_init 26 = .ok (.putfield 16, 3) := by decide +kernel
theorem dX5_init_29 : decode cX5_init 29 = .ok (.aload_n 0, 1) := by decide +kernel
theorem dX5_init_30 : decode cX5_init 30 = .ok (.bipush 8, 2) := by decide +kernel
theorem dX5_init_32 : decode cX5_init 32 = .ok (.newarray .int, 2) := by decide +kernel
theorem dX5_init_34 : decode cX5_init 34 = .ok (.putfield 19, 3) := by decide +kernel
theorem dX5_init_37 : decode cX5_init 37 = .ok (.aload_n 0, 1) := by decide +kernel
theorem dX5_init_38 : decode cX5_init 38 = .ok (.bipush 64, 2) := by decide +kernel
theorem dX5_init_40 : decode cX5_init 40 = .ok (.newarray .int, 2) := by decide +kernel
theorem dX5_init_42 : decode cX5_init 42 = .ok (.putfield 22, 3) := by decide +kernel
theorem dX5_init_45 : decode cX5_init 45 = .ok (.aload_n 0, 1) := by decide +kernel
theorem dX5_init_46 : decode cX5_init 46 = .ok (.bipush 16, 2) := by decide +kernel
theorem dX5_init_48 : decode cX5_init 48 = .ok (.newarray .int, 2) := by decide +kernel
theorem dX5_init_50 : decode cX5_init 50 = .ok (.putfield 25, 3) := by decide +kernel
theorem dX5_init_53 : decode cX5_init 53 = .ok (.aload_n 0, 1) := by decide +kernel
theorem dX5_init_54 : decode cX5_init 54 = .ok (.bipush 8, 2) := by decide +kernel
theorem dX5_init_56 : decode cX5_init 56 = .ok (.newarray .int, 2) := by decide +kernel
theorem dX5_init_58 : decode cX5_init 58 = .ok (.putfield 28, 3) := by decide +kernel
theorem dX5_init_61 : decode cX5_init 61 = .ok (.aload_n 0, 1) := by decide +kernel
theorem dX5_init_62 : decode cX5_init 62 = .ok (.bipush 7, 2) := by decide +kernel
theorem dX5_init_64 : decode cX5_init 64 = .ok (.newarray .int, 2) := by decide +kernel
theorem dX5_init_66 : decode cX5_init 66 = .ok (.putfield 31, 3) := by decide +kernel
theorem dX5_init_69 : decode cX5_init 69 = .ok (.aload_n 0, 1) := by decide +kernel
theorem dX5_init_70 : decode cX5_init 70 = .ok (.bipush 7, 2) := by decide +kernel
theorem dX5_init_72 : decode cX5_init 72 = .ok (.newarray .int, 2) := by decide +kernel
theorem dX5_init_74 : decode cX5_init 74 = .ok (.putfield 34, 3) := by decide +kernel
theorem dX5_init_77 : decode cX5_init 77 = .ok (.aload_n 0, 1) := by decide +kernel
theorem dX5_init_78 : decode cX5_init 78 = .ok (.bipush 7, 2) := by decide +kernel
theorem dX5_init_80 : decode cX5_init 80 = .ok (.newarray .int, 2) := by decide +kernel
theorem dX5_init_82 : decode cX5_init 82 = .ok (.putfield 37, 3) := by decide +kernel
theorem dX5_init_85 : decode cX5_init 85 = .ok (.aload_n 0, 1) := by decide +kernel
theorem dX5_init_86 : decode cX5_init 86 = .ok (.bipush 8, 2) := by decide +kernel
theorem dX5_init_88 : decode cX5_init 88 = .ok (.newarray .int, 2) := by decide +kernel
theorem dX5_init_90 : decode cX5_init 90 = .ok (.putfield 40, 3) := by decide +kernel
theorem dX5_init_93 : decode cX5_init 93 = .ok (.aload_n 0, 1) := by decide +kernel
theorem dX5_init_94 : decode cX5_init 94 = .ok (.bipush 8, 2) := by decide +kernel
theorem dX5_init_96 : decode cX5_init 96 = .ok (.newarray .int, 2) := by decide +kernel
theorem dX5_init_98 : decode cX5_init 98 = .ok (.putfield 43, 3) := by decide +kernel
theorem dX5_init_101 : decode cX5_init 101 = .ok (.aload_n 0, 1) := by decide +kernel
theorem dX5_init_102 : decode cX5_init 102 = .ok (.invokevirtual 46, 3) := by decide +kernel
theorem dX5_init_105 : decode cX5_init 105 = .ok (.aload_n 0, 1) := by decide +kernel
theorem dX5_init_106 : decode cX5_init 106 = .ok (.iconst 0, 1) := by decide +kernel
theorem dX5_init_107 : decode cX5_init 107 = .ok (.iconst 0, 1) := by decide +kernel
theorem dX5_init_108 : decode cX5_init 108 = .ok (.iconst 2, 1) := by decide +kernel
theorem dX5_init_109 : decode cX5_init 109 = .ok (.invokevirtual 49, 3) := by decide +kernel
theorem dX5_init_112 : decode cX5_init 112 = .ok (.aload_n 0, 1) := by decide +kernel
theorem dX5_init_113 : decode cX5_init 113 = .ok (.iconst 1, 1) := by decide +kernel
theorem dX5_init_114 : decode cX5_init 114 = .ok (.iconst 2, 1) := by decide +kernel
theorem dX5_init_115 : decode cX5_init 115 = .ok (.iconst 5, 1) := by decide +kernel
theorem dX5_init_116 : decode cX5_init 116 = .ok (.invokevirtual 49, 3) := by decide +kernel
theorem dX5_init_119 : decode cX5_init 119 = .ok (.aload_n 0, 1) := by decide +kernel
theorem dX5_init_120 : decode cX5_init 120 = .ok (.iconst 2, 1) := by decide +kernel
theorem dX5_init_121 : decode cX5_init 121 = .ok (.iconst 0, 1) := by decide +kernel
theorem dX5_init_122 : decode cX5_init 122 = .ok (.iconst 3, 1) := by decide +kernel
theorem dX5_init_123 : decode cX5_init 123 = .ok (.invokevirtual 49, 3) := by decide +kernel
theorem dX5_init_126 : decode cX5_init 126 = .ok (.aload_n 0, 1) := by decide +kernel
theorem dX5_init_127 : decode cX5_init 127 = .ok (.iconst 3, 1) := by decide +kernel
theorem dX5_init_128 : decode cX5_init 128 = .ok (.iconst 3, 1) := by decide +kernel
theorem dX5_init_129 : decode cX5_init 129 = .ok (.iconst 4, 1) := by decide +kernel
theorem dX5_init_130 : decode cX5_init 130 = .ok (.invokevirtual 49, 3) := by decide +kernel
theorem dX5_init_133 : decode cX5_init 133 = .ok (.aload_n 0, 1) := by decide +kernel
theorem dX5_init_134 : decode cX5_init 134 = .ok (.iconst 1, 1) := by decide +kernel
theorem dX5_init_135 : decode cX5_init 135 = .ok (.iconst 0, 1) := by decide +kernel
theorem dX5_init_136 : decode cX5_init 136 = .ok (.bipush 6, 2) := by decide +kernel
theorem dX5_init_138 : decode cX5_init 138 = .ok (.invokevirtual 49, 3) := by decide +kernel
theorem dX5_init_141 : decode cX5_init 141 = .ok (.aload_n 0, 1) := by decide +kernel
theorem dX5_init_142 : decode cX5_init 142 = .ok (.getfield 16, 3) := by decide +kernel
theorem dX5_init_145 : decode cX5_init 145 = .ok (.bipush 25, 2) := by decide +kernel
theorem dX5_init_147 : decode cX5_init 147 = .ok (.bipush 31, 2) := by decide +kernel
theorem dX5_init_149 : decode cX5_init 149 = .ok (.iastore, 1) := by decide +kernel
theorem dX5_init_150 : decode cX5_init 150 = .ok (.aload_n 0, 1) := by decide +kernel
theorem dX5_init_151 : decode cX5_init 151 = .ok (.getfield 16, 3) := by decide +kernel
theorem dX5_init_154 : decode cX5_init 154 = .ok (.bipush 26, 2) := by decide +kernel
theorem dX5_init_156 : decode cX5_init 156 = .ok (.bipush 21, 2) := by decide +kernel
theorem dX5_init_158 : decode cX5_init 158 = .ok (.iastore, 1) := by decide +kernel
theorem dX5_init_159 : decode cX5_init 159 = .ok (.aload_n 0, 1) := by decide +kernel
theorem dX5_init_160 : decode cX5_init 160 = .ok (.getfield 16, 3) := by decide +kernel
theorem dX5_init_163 : decode cX5_init 163 = .ok (.bipush 27, 2) := by decide +kernel
theorem dX5_init_165 : decode cX5_init 165 = .ok (.bipush 14, 2) := by decide +kernel
theorem dX5_init_167 : decode cX5_init 167 = .ok (.iastore, 1) := by decide +kernel
theorem dX5_init_168 : decode cX5_init 168 = .ok (.aload_n 0, 1) := by decide +kernel
theorem dX5_init_169 : decode cX5_init 169 = .ok (.getfield 16, 3) := by decide +kernel
theorem dX5_init_172 : decode cX5_init 172 = .ok (.bipush 28, 2) := by decide +kernel
theorem dX5_init_174 : decode cX5_init 174 = .ok (.bipush 27, 2) := by decide +kernel
theorem dX5_init_176 : decode cX5_init 176 = .ok (.iastore, 1) := by decide +kernel
theorem dX5_init_177 : decode cX5_init 177 = .ok (.aload_n 0, 1) := by decide +kernel
theorem dX5_init_178 : decode cX5_init 178 = .ok (.getfield 16, 3) := by decide +kernel
theorem dX5_init_181 : decode cX5_init 181 = .ok (.iconst 1, 1) := by decide +kernel
theorem dX5_init_182 : decode cX5_init 182 = .ok (.iconst 4, 1) := by decide +kernel
theorem dX5_init_183 : decode cX5_init 183 = .ok (.iastore, 1) := by decide +kernel
theorem dX5_init_184 : decode cX5_init 184 = .ok (.aload_n 0, 1) := by decide +kernel
theorem dX5_init_185 : decode cX5_init 185 = .ok (.iconst 2, 1) := by decide +kernel
theorem dX5_init_186 : decode cX5_init 186 = .ok (.invokevirtual 53, 3) := by decide +kernel
theorem dX5_init_189 : decode cX5_init 189 = .ok (.aload_n 0, 1) := by decide +kernel
theorem dX5_init_190 : decode cX5_init 190 = .ok (.iconst 0, 1) := by decide +kernel
theorem dX5_init_191 : decode cX5_init 191 = .ok (.invokevirtual 53, 3) := by decide +kernel
theorem dX5_init_194 : decode cX5_init 194 = .ok (.aload_n 0, 1) := by decide +kernel
theorem dX5_init_195 : decode cX5_init 195 = .ok (.getfield 16, 3) := by decide +kernel
theorem dX5_init_198 : decode cX5_init 198 = .ok (.iconst 3, 1) := by decide +kernel
theorem dX5_init_199 : decode cX5_init 199 = .ok (.iconst 4, 1) := by decide +kernel
theorem dX5_init_200 : decode cX5_init 200 = .ok (.iastore, 1) := by decide +kernel
theorem dX5_init_201 : decode cX5_init 201 = .ok (.aload_n 0, 1) := by decide +kernel
theorem dX5_init_202 : decode cX5_init 202 = .ok (.invokevirtual 57, 3) := by decide +kernel
theorem dX5_init_205 : decode cX5_init 205 = .ok (.return_, 1) := by decide +kernel
theorem dX5_in_0 : decode cX5_in 0 = .ok (.iload_n 0, 1) := by decide +kernel
theorem dX5_in_1 : decode cX5_in 1 = .ok (.iload_n 1, 1) := by decide +kernel
theorem dX5_in_2 : decode cX5_in 2 = .ok (.if_icmp .lt 12, 3) := by decide +kernel
theorem dX5_in_5 : decode cX5_in 5 = .ok (.iload_n 0, 1) := by decide +kernel
theorem dX5_in_6 : decode cX5_in 6 = .ok (.iload_n 2, 1) := by decide +kernel
theorem dX5_in_7 : decode cX5_in 7 = .ok (.if_icmp .gt 7, 3) := by decide +kernel
theorem dX5_in_10 : decode cX5_in 10 = .ok (.iconst 1, 1) := by decide +kernel
theorem dX5_in_11 : decode cX5_in 11 = .ok (.goto 4, 3) := by decide +kernel
theorem dX5_in_14 : decode cX5_in 14 = .ok (.iconst 0, 1) := by decide +kernel
theorem dX5_in_15 : decode cX5_in 15 = .ok (.ireturn, 1) := by decide +kernel
theorem dX5_isOne_0 : decode cX5_isOne 0 = .ok (.iload_n 1, 1) := by decide +kernel
theorem dX5_isOne_1 : decode cX5_isOne 1 = .ok (.iconst 0, 1) := by decide +kernel
theorem dX5_isOne_2 : decode cX5_isOne 2 = .ok (.aload_n 0, 1) := by decide +kernel
theorem dX5_isOne_3 : decode cX5_isOne 3 = .ok (.getfield 13, 3) := by decide +kernel
theorem dX5_isOne_6 : decode cX5_isOne 6 = .ok (.iconst 0, 1) := by decide +kernel
theorem dX5_isOne_7 : decode cX5_isOne 7 = .ok (.iaload, 1) := by decide +kernel
theorem dX5_isOne_8 : decode cX5_isOne 8 = .ok (.iconst 1, 1) := by decide +kernel
theorem dX5_isOne_9 : decode cX5_isOne 9 = .ok (.isub, 1) := by decide +kernel
theorem dX5_isOne_10 : decode cX5_isOne 10 = .ok (.invokestatic 60, 3) := by decide +kernel
theorem dX5_isOne_13 : decode cX5_isOne 13 = .ok (.ireturn, 1) := by decide +kernel
theorem dX5_isBar_0 : decode cX5_isBar 0 = .ok (.iload_n 1, 1) := by decide +kernel
theorem dX5_isBar_1 : decode cX5_isBar 1 = .ok (.iconst 0, 1) := by decide +kernel
theorem dX5_isBar_2 : decode cX5_isBar 2 = .ok (.aload_n 0, 1) := by decide +kernel
theorem dX5_isBar_3 : decode cX5_isBar 3 = .ok (.getfield 13, 3) := by decide +kernel
theorem dX5_isBar_6 : decode cX5_isBar 6 = .ok (.iconst 1, 1) := by decide +kernel
theorem dX5_isBar_7 : decode cX5_isBar 7 = .ok (.iaload, 1) := by decide +kernel
theorem dX5_isBar_8 : decode cX5_isBar 8 = .ok (.iconst 1, 1) := by decide +kernel
theorem dX5_isBar_9 : decode cX5_isBar 9 = .ok (.isub, 1) := by decide +kernel
theorem dX5_isBar_10 : decode cX5_isBar 10 = .ok (.invokestatic 60, 3) := by decide +kernel
theorem dX5_isBar_13 : decode cX5_isBar 13 = .ok (.ireturn, 1) := by decide +kernel
theorem dX5_ones_0 : decode cX5_ones 0 = .ok (.iconst 0, 1) := by decide +kernel
theorem dX5_ones_1 : decode cX5_ones 1 = .ok (.istore_n 1, 1) := by decide +kernel
theorem dX5_ones_2 : decode cX5_ones 2 = .ok (.iconst 0, 1) := by decide +kernel
theorem dX5_ones_3 : decode cX5_ones 3 = .ok (.istore_n 2, 1) := by decide +kernel
theorem dX5_ones_4 : decode cX5_ones 4 = .ok (.iload_n 2, 1) := by decide +kernel
theorem dX5_ones_5 : decode cX5_ones 5 = .ok (.bipush 8, 2) := by decide +kernel
theorem dX5_ones_7 : decode cX5_ones 7 = .ok (.if_icmp .ge 17, 3) := by decide +kernel
theorem dX5_ones_10 : decode cX5_ones 10 = .ok (.iload_n 1, 1) := by decide +kernel
theorem dX5_ones_11 : decode cX5_ones 11 = .ok (.iload_n 0, 1) := by decide +kernel
theorem dX5_ones_12 : decode cX5_ones 12 = .ok (.iload_n 2, 1) := by decide +kernel
theorem dX5_ones_13 : decode cX5_ones 13 = .ok (.ishr, 1) := by decide +kernel
theorem dX5_ones_14 : decode cX5_ones 14 = .ok (.iconst 1, 1) := by decide +kernel
theorem dX5_ones_15 : decode cX5_ones 15 = .ok (.iand, 1) := by decide +kernel
theorem dX5_ones_16 : decode cX5_ones 16 = .ok (.iadd, 1) := by decide +kernel
theorem dX5_ones_17 : decode cX5_ones 17 = .ok (.istore_n 1, 1) := by decide +kernel
theorem dX5_ones_18 : decode cX5_ones 18 = .ok (.iinc 2 1, 3) := by decide +kernel
theorem dX5_ones_21 : decode cX5_ones 21 = .ok (.goto (-17), 3) := by decide +kernel
theorem dX5_ones_24 : decode cX5_ones 24 = .ok (.iload_n 1, 1) := by decide +kernel
theorem dX5_ones_25 : decode cX5_ones 25 = .ok (.ireturn, 1) := by decide +kernel
theorem dX5_write_0 : decode cX5_write 0 = .ok (.iload_n 1, 1) := by decide +kernel
theorem dX5_write_1 : decode cX5_write 1 = .ok (.bipush 32, 2) := by decide +kernel
theorem dX5_write_3 : decode cX5_write 3 = .ok (.bipush 126, 2) := by decide +kernel
theorem dX5_write_5 : decode cX5_write 5 = .ok (.invokestatic 60, 3) := by decide +kernel
theorem dX5_write_8 : decode cX5_write 8 = .ok (.ifCond .ne 5, 3) := by decide +kernel
theorem dX5_write_11 : decode cX5_write 11 = .ok (.iconst (-1), 1) := by decide +kernel
theorem dX5_write_12 : decode cX5_write 12 = .ok (.ireturn, 1) := by decide +kernel
theorem dX5_write_13 : decode cX5_write 13 = .ok (.aload_n 0, 1) := by decide +kernel
theorem dX5_write_14 : decode cX5_write 14 = .ok (.getfield 64, 3) := by decide +kernel
theorem dX5_write_17 : decode cX5_write 17 = .ok (.sipush 200, 3) := by decide +kernel
theorem dX5_write_20 : decode cX5_write 20 = .ok (.if_icmp .ne 6, 3) := by decide +kernel
theorem dX5_write_23 : decode cX5_write 23 = .ok (.bipush (-3), 2) := by decide +kernel
theorem dX5_write_25 : decode cX5_write 25 = .ok (.ireturn, 1) := by decide +kernel
theorem dX5_write_26 : decode cX5_write 26 = .ok (.aload_n 0, 1) := by decide +kernel
theorem dX5_write_27 : decode cX5_write 27 = .ok (.getfield 7, 3) := by decide +kernel
theorem dX5_write_30 : decode cX5_write 30 = .ok (.aload_n 0, 1) := by decide +kernel
theorem dX5_write_31 : decode cX5_write 31 = .ok (.getfield 64, 3) := by decide +kernel
theorem dX5_write_34 : decode cX5_write 34 = .ok (.iload_n 1, 1) := by decide +kernel
theorem dX5_write_35 : decode cX5_write 35 = .ok (.iastore, 1) := by decide +kernel
theorem dX5_write_36 : decode cX5_write 36 = .ok (.aload_n 0, 1) := by decide +kernel
theorem dX5_write_37 : decode cX5_write 37 = .ok (.dup, 1) := by decide +kernel
theorem dX5_write_38 : decode cX5_write 38 = .ok (.getfield 64, 3) := by decide +kernel
theorem dX5_write_41 : decode cX5_write 41 = .ok (.iconst 1, 1) := by decide +kernel
theorem dX5_write_42 : decode cX5_write 42 = .ok (.iadd, 1) := by decide +kernel
theorem dX5_write_43 : decode cX5_write 43 = .ok (.putfield 64, 3) := by decide +kernel
theorem dX5_write_46 : decode cX5_write 46 = .ok (.aload_n 0, 1) := by decide +kernel
theorem dX5_write_47 : decode cX5_write 47 = .ok (.getfield 64, 3) := by decide +kernel
theorem dX5_write_50 : decode cX5_write 50 = .ok (.ireturn, 1) := by decide +kernel
theorem dX5_wipe_0 : decode cX5_wipe 0 = .ok (.aload_n 0, 1) := by decide +kernel
theorem dX5_wipe_1 : decode cX5_wipe 1 = .ok (.getfield 64, 3) := by decide +kernel
theorem dX5_wipe_4 : decode cX5_wipe 4 = .ok (.istore_n 1, 1) := by decide +kernel
theorem dX5_wipe_5 : decode cX5_wipe 5 = .ok (.aload_n 0, 1) := by decide +kernel
theorem dX5_wipe_6 : decode cX5_wipe 6 = .ok (.iconst 0, 1) := by decide +kernel
theorem dX5_wipe_7 : decode cX5_wipe 7 = .ok (.putfield 64, 3) := by decide +kernel
theorem dX5_wipe_10 : decode cX5_wipe 10 = .ok (.iload_n 1, 1) := by decide +kernel
theorem dX5_wipe_11 : decode cX5_wipe 11 = .ok (.ireturn, 1) := by decide +kernel
theorem dX5_letterAt_0 : decode cX5_letterAt 0 = .ok (.iload_n 1, 1) := by decide +kernel
theorem dX5_letterAt_1 : decode cX5_letterAt 1 = .ok (.aload_n 0, 1) := by decide +kernel
theorem dX5_letterAt_2 : decode cX5_letterAt 2 = .ok (.getfield 64, 3) := by decide +kernel
theorem dX5_letterAt_5 : decode cX5_letterAt 5 = .ok (.if_icmp .ge 12, 3) := by decide +kernel
theorem dX5_letterAt_8 : decode cX5_letterAt 8 = .ok (.aload_n 0, 1) := by decide +kernel
theorem dX5_letterAt_9 : decode cX5_letterAt 9 = .ok (.getfield 7, 3) := by decide +kernel
theorem dX5_letterAt_12 : decode cX5_letterAt 12 = .ok (.iload_n 1, 1) := by decide +kernel
theorem dX5_letterAt_13 : decode cX5_letterAt 13 = .ok (.iaload, 1) := by decide +kernel
theorem dX5_letterAt_14 : decode cX5_letterAt 14 = .ok (.goto 4, 3) := by decide +kernel
theorem dX5_letterAt_17 : decode cX5_letterAt 17 = .ok (.iconst (-1), 1) := by decide +kernel
theorem dX5_letterAt_18 : decode cX5_letterAt 18 = .ok (.ireturn, 1) := by decide +kernel
theorem dX5_isFigure_0 : decode cX5_isFigure 0 = .ok (.iload_n 0, 1) := by decide +kernel
theorem dX5_isFigure_1 : decode cX5_isFigure 1 = .ok (.bipush 48, 2) := by decide +kernel
theorem dX5_isFigure_3 : decode cX5_isFigure 3 = .ok (.bipush 57, 2) := by decide +kernel
theorem dX5_isFigure_5 : decode cX5_isFigure 5 = .ok (.invokestatic 60, 3) := by decide +kernel
theorem dX5_isFigure_8 : decode cX5_isFigure 8 = .ok (.ireturn, 1) := by decide +kernel
theorem dX5_number_0 : decode cX5_number 0 = .ok (.aload_n 0, 1) := by decide +kernel
theorem dX5_number_1 : decode cX5_number 1 = .ok (.aload_n 0, 1) := by decide +kernel
theorem dX5_number_2 : decode cX5_number 2 = .ok (.getfield 68, 3) := by decide +kernel
theorem dX5_number_5 : decode cX5_number 5 = .ok (.invokevirtual 71, 3) := by decide +kernel
theorem dX5_number_8 : decode cX5_number 8 = .ok (.invokestatic 75, 3) := by decide +kernel
theorem dX5_number_11 : decode cX5_number 11 = .ok (.ifCond .ne 5, 3) := by decide +kernel
theorem dX5_number_14 : decode cX5_number 14 = .ok (.iconst (-1), 1) := by decide +kernel
theorem dX5_number_15 : decode cX5_number 15 = .ok (.ireturn, 1) := by decide +kernel
theorem dX5_number_16 : decode cX5_number 16 = .ok (.aload_n 0, 1) := by decide +kernel
theorem dX5_number_17 : decode cX5_number 17 = .ok (.aload_n 0, 1) := by decide +kernel
theorem dX5_number_18 : decode cX5_number 18 = .ok (.getfield 68, 3) := by decide +kernel
theorem dX5_number_21 : decode cX5_number 21 = .ok (.invokevirtual 71, 3) := by decide +kernel
theorem dX5_number_24 : decode cX5_number 24 = .ok (.bipush 48, 2) := by decide +kernel
theorem dX5_number_26 : decode cX5_number 26 = .ok (.isub, 1) := by decide +kernel
theorem dX5_number_27 : decode cX5_number 27 = .ok (.istore_n 3, 1) := by decide +kernel
theorem dX5_number_28 : decode cX5_number 28 = .ok (.aload_n 0, 1) := by decide +kernel
theorem dX5_number_29 : decode cX5_number 29 = .ok (.dup, 1) := by decide +kernel
theorem dX5_number_30 : decode cX5_number 30 = .ok (.getfield 68, 3) := by decide +kernel
theorem dX5_number_33 : decode cX5_number 33 = .ok (.iconst 1, 1) := by decide +kernel
theorem dX5_number_34 : decode cX5_number 34 = .ok (.iadd, 1) := by decide +kernel
theorem dX5_number_35 : decode cX5_number 35 = .ok (.putfield 68, 3) := by decide +kernel
theorem dX5_number_38 : decode cX5_number 38 = .ok (.aload_n 0, 1) := by decide +kernel
theorem dX5_number_39 : decode cX5_number 39 = .ok (.aload_n 0, 1) := by decide +kernel
theorem dX5_number_40 : decode cX5_number 40 = .ok (.getfield 68, 3) := by decide +kernel
theorem dX5_number_43 : decode cX5_number 43 = .ok (.invokevirtual 71, 3) := by decide +kernel
theorem dX5_number_46 : decode cX5_number 46 = .ok (.invokestatic 75, 3) := by decide +kernel
theorem dX5_number_49 : decode cX5_number 49 = .ok (.ifCond .eq 30, 3) := by decide +kernel
theorem dX5_number_52 : decode cX5_number 52 = .ok (.bipush 10, 2) := by decide +kernel
theorem dX5_number_54 : decode cX5_number 54 = .ok (.iload_n 3, 1) := by decide +kernel
theorem dX5_number_55 : decode cX5_number 55 = .ok (.imul, 1) := by decide +kernel
theorem dX5_number_56 : decode cX5_number 56 = .ok (.aload_n 0, 1) := by decide +kernel
theorem dX5_number_57 : decode cX5_number 57 = .ok (.aload_n 0, 1) := by decide +kernel
theorem dX5_number_58 : decode cX5_number 58 = .ok (.getfield 68, 3) := by decide +kernel
theorem dX5_number_61 : decode cX5_number 61 = .ok (.invokevirtual 71, 3) := by decide +kernel
theorem dX5_number_64 : decode cX5_number 64 = .ok (.iadd, 1) := by decide +kernel
theorem dX5_number_65 : decode cX5_number 65 = .ok (.bipush 48, 2) := by decide +kernel
theorem dX5_number_67 : decode cX5_number 67 = .ok (.isub, 1) := by decide +kernel
theorem dX5_number_68 : decode cX5_number 68 = .ok (.istore_n 3, 1) := by decide +kernel
theorem dX5_number_69 : decode cX5_number 69 = .ok (.aload_n 0, 1) := by decide +kernel
theorem dX5_number_70 : decode cX5_number 70 = .ok (.dup, 1) := by decide +kernel
theorem dX5_number_71 : decode cX5_number 71 = .ok (.getfield 68, 3) := by decide +kernel
theorem dX5_number_74 : decode cX5_number 74 = .ok (.iconst 1, 1) := by decide +kernel
theorem dX5_number_75 : decode cX5_number 75 = .ok (.iadd, 1) := by decide +kernel
theorem dX5_number_76 : decode cX5_number 76 = .ok (.putfield 68, 3) := by decide +kernel
theorem dX5_number_79 : decode cX5_number 79 = .ok (.aload_n 0, 1) := by decide +kernel
theorem dX5_number_80 : decode cX5_number 80 = .ok (.aload_n 0, 1) := by decide +kernel
theorem dX5_number_81 : decode cX5_number 81 = .ok (.getfield 68, 3) := by decide +kernel
theorem dX5_number_84 : decode cX5_number 84 = .ok (.invokevirtual 71, 3) := by decide +kernel
theorem dX5_number_87 : decode cX5_number 87 = .ok (.iload_n 2, 1) := by decide +kernel
theorem dX5_number_88 : decode cX5_number 88 = .ok (.if_icmp .ne 12, 3) := by decide +kernel
theorem dX5_number_91 : decode cX5_number 91 = .ok (.iload_n 3, 1) := by decide +kernel
theorem dX5_number_92 : decode cX5_number 92 = .ok (.iload_n 1, 1) := by decide +kernel
theorem dX5_number_93 : decode cX5_number 93 = .ok (.if_icmp .gt 7, 3) := by decide +kernel
theorem dX5_number_96 : decode cX5_number 96 = .ok (.iconst 1, 1) := by decide +kernel
theorem dX5_number_97 : decode cX5_number 97 = .ok (.goto 4, 3) := by decide +kernel
theorem dX5_number_100 : decode cX5_number 100 = .ok (.iconst 0, 1) := by decide +kernel
theorem dX5_number_101 : decode cX5_number 101 = .ok (.istore 4, 2) := by decide +kernel
theorem dX5_number_103 : decode cX5_number 103 = .ok (.aload_n 0, 1) := by decide +kernel
theorem dX5_number_104 : decode cX5_number 104 = .ok (.dup, 1) := by decide +kernel
theorem dX5_number_105 : decode cX5_number 105 = .ok (.getfield 68, 3) := by decide +kernel
theorem dX5_number_108 : decode cX5_number 108 = .ok (.iconst 1, 1) := by decide +kernel
theorem dX5_number_109 : decode cX5_number 109 = .ok (.iadd, 1) := by decide +kernel
theorem dX5_number_110 : decode cX5_number 110 = .ok (.putfield 68, 3) := by decide +kernel
theorem dX5_number_113 : decode cX5_number 113 = .ok (.iload 4, 2) := by decide +kernel
theorem dX5_number_115 : decode cX5_number 115 = .ok (.ifCond .eq 7, 3) := by decide +kernel
theorem dX5_number_118 : decode cX5_number 118 = .ok (.iload_n 3, 1) := by decide +kernel
theorem dX5_number_119 : decode cX5_number 119 = .ok (.goto 4, 3) := by decide +kernel
theorem dX5_number_122 : decode cX5_number 122 = .ok (.iconst (-1), 1) := by decide +kernel
theorem dX5_number_123 : decode cX5_number 123 = .ok (.ireturn, 1) := by decide +kernel
theorem dX5_begins_0 : decode cX5_begins 0 = .ok (.iconst 0, 1) := by decide +kernel
theorem dX5_begins_1 : decode cX5_begins 1 = .ok (.istore_n 1, 1) := by decide +kernel
theorem dX5_begins_2 : decode cX5_begins 2 = .ok (.iload_n 1, 1) := by decide +kernel
theorem dX5_begins_3 : decode cX5_begins 3 = .ok (.bipush 40, 2) := by decide +kernel
theorem dX5_begins_5 : decode cX5_begins 5 = .ok (.if_icmp .ge 16, 3) := by decide +kernel
theorem dX5_begins_8 : decode cX5_begins 8 = .ok (.aload_n 0, 1) := by decide +kernel
theorem dX5_begins_9 : decode cX5_begins 9 = .ok (.getfield 16, 3) := by decide +kernel
theorem dX5_begins_12 : decode cX5_begins 12 = .ok (.iload_n 1, 1) := by decide +kernel
theorem dX5_begins_13 : decode cX5_begins 13 = .ok (.iconst 0, 1) := by decide +kernel
theorem dX5_begins_14 : decode cX5_begins 14 = .ok (.iastore, 1) := by decide +kernel
theorem dX5_begins_15 : decode cX5_begins 15 = .ok (.iinc 1 1, 3) := by decide +kernel
theorem dX5_begins_18 : decode cX5_begins 18 = .ok (.goto (-16), 3) := by decide +kernel
theorem dX5_begins_21 : decode cX5_begins 21 = .ok (.return_, 1) := by decide +kernel
theorem dX5_adds_0 : decode cX5_adds 0 = .ok (.aload_n 0, 1) := by decide +kernel
theorem dX5_adds_1 : decode cX5_adds 1 = .ok (.getfield 16, 3) := by decide +kernel
theorem dX5_adds_4 : decode cX5_adds 4 = .ok (.iconst 0, 1) := by decide +kernel
theorem dX5_adds_5 : decode cX5_adds 5 = .ok (.iaload, 1) := by decide +kernel
theorem dX5_adds_6 : decode cX5_adds 6 = .ok (.istore 4, 2) := by decide +kernel
theorem dX5_adds_8 : decode cX5_adds 8 = .ok (.aload_n 0, 1) := by decide +kernel
theorem dX5_adds_9 : decode cX5_adds 9 = .ok (.getfield 16, 3) := by decide +kernel
theorem dX5_adds_12 : decode cX5_adds 12 = .ok (.iconst 4, 1) := by decide +kernel
theorem dX5_adds_13 : decode cX5_adds 13 = .ok (.iload 4, 2) := by decide +kernel
theorem dX5_adds_15 : decode cX5_adds 15 = .ok (.iadd, 1) := by decide +kernel
theorem dX5_adds_16 : decode cX5_adds 16 = .ok (.iload_n 1, 1) := by decide +kernel
theorem dX5_adds_17 : decode cX5_adds 17 = .ok (.iastore, 1) := by decide +kernel
theorem dX5_adds_18 : decode cX5_adds 18 = .ok (.aload_n 0, 1) := by decide +kernel
theorem dX5_adds_19 : decode cX5_adds 19 = .ok (.getfield 16, 3) := by decide +kernel
theorem dX5_adds_22 : decode cX5_adds 22 = .ok (.bipush 11, 2) := by decide +kernel
theorem dX5_adds_24 : decode cX5_adds 24 = .ok (.iload 4, 2) := by decide +kernel
theorem dX5_adds_26 : decode cX5_adds 26 = .ok (.iadd, 1) := by decide +kernel
theorem dX5_adds_27 : decode cX5_adds 27 = .ok (.iload_n 2, 1) := by decide +kernel
theorem dX5_adds_28 : decode cX5_adds 28 = .ok (.iastore, 1) := by decide +kernel
theorem dX5_adds_29 : decode cX5_adds 29 = .ok (.aload_n 0, 1) := by decide +kernel
theorem dX5_adds_30 : decode cX5_adds 30 = .ok (.getfield 16, 3) := by decide +kernel
theorem dX5_adds_33 : decode cX5_adds 33 = .ok (.bipush 18, 2) := by decide +kernel
theorem dX5_adds_35 : decode cX5_adds 35 = .ok (.iload 4, 2) := by decide +kernel
theorem dX5_adds_37 : decode cX5_adds 37 = .ok (.iadd, 1) := by decide +kernel
theorem dX5_adds_38 : decode cX5_adds 38 = .ok (.iload_n 3, 1) := by decide +kernel
theorem dX5_adds_39 : decode cX5_adds 39 = .ok (.iastore, 1) := by decide +kernel
theorem dX5_adds_40 : decode cX5_adds 40 = .ok (.aload_n 0, 1) := by decide +kernel
theorem dX5_adds_41 : decode cX5_adds 41 = .ok (.getfield 16, 3) := by decide +kernel
theorem dX5_adds_44 : decode cX5_adds 44 = .ok (.iconst 0, 1) := by decide +kernel
theorem dX5_adds_45 : decode cX5_adds 45 = .ok (.dup2, 1) := by decide +kernel
theorem dX5_adds_46 : decode cX5_adds 46 = .ok (.iaload, 1) := by decide +kernel
theorem dX5_adds_47 : decode cX5_adds 47 = .ok (.iconst 1, 1) := by decide +kernel
theorem dX5_adds_48 : decode cX5_adds 48 = .ok (.iadd, 1) := by decide +kernel
theorem dX5_adds_49 : decode cX5_adds 49 = .ok (.iastore, 1) := by decide +kernel
theorem dX5_adds_50 : decode cX5_adds 50 = .ok (.return_, 1) := by decide +kernel
theorem dX5_sits_0 : decode cX5_sits 0 = .ok (.iconst 0, 1) := by decide +kernel
theorem dX5_sits_1 : decode cX5_sits 1 = .ok (.istore_n 2, 1) := by decide +kernel
theorem dX5_sits_2 : decode cX5_sits 2 = .ok (.iconst 0, 1) := by decide +kernel
theorem dX5_sits_3 : decode cX5_sits 3 = .ok (.istore_n 3, 1) := by decide +kernel
theorem dX5_sits_4 : decode cX5_sits 4 = .ok (.iload_n 3, 1) := by decide +kernel
theorem dX5_sits_5 : decode cX5_sits 5 = .ok (.aload_n 0, 1) := by decide +kernel
theorem dX5_sits_6 : decode cX5_sits 6 = .ok (.getfield 16, 3) := by decide +kernel
theorem dX5_sits_9 : decode cX5_sits 9 = .ok (.iconst 2, 1) := by decide +kernel
theorem dX5_sits_10 : decode cX5_sits 10 = .ok (.iaload, 1) := by decide +kernel
theorem dX5_sits_11 : decode cX5_sits 11 = .ok (.if_icmp .ge 32, 3) := by decide +kernel
theorem dX5_sits_14 : decode cX5_sits 14 = .ok (.iload_n 2, 1) := by decide +kernel
theorem dX5_sits_15 : decode cX5_sits 15 = .ok (.ifCond .ne 16, 3) := by decide +kernel
theorem dX5_sits_18 : decode cX5_sits 18 = .ok (.aload_n 0, 1) := by decide +kernel
theorem dX5_sits_19 : decode cX5_sits 19 = .ok (.getfield 16, 3) := by decide +kernel
theorem dX5_sits_22 : decode cX5_sits 22 = .ok (.bipush 33, 2) := by decide +kernel
theorem dX5_sits_24 : decode cX5_sits 24 = .ok (.iload_n 3, 1) := by decide +kernel
theorem dX5_sits_25 : decode cX5_sits 25 = .ok (.iadd, 1) := by decide +kernel
theorem dX5_sits_26 : decode cX5_sits 26 = .ok (.iaload, 1) := by decide +kernel
theorem dX5_sits_27 : decode cX5_sits 27 = .ok (.iload_n 1, 1) := by decide +kernel
theorem dX5_sits_28 : decode cX5_sits 28 = .ok (.if_icmp .ne 7, 3) := by decide +kernel
theorem dX5_sits_31 : decode cX5_sits 31 = .ok (.iconst 1, 1) := by decide +kernel
theorem dX5_sits_32 : decode cX5_sits 32 = .ok (.goto 4, 3) := by decide +kernel
theorem dX5_sits_35 : decode cX5_sits 35 = .ok (.iconst 0, 1) := by decide +kernel
theorem dX5_sits_36 : decode cX5_sits 36 = .ok (.istore_n 2, 1) := by decide +kernel
theorem dX5_sits_37 : decode cX5_sits 37 = .ok (.iinc 3 1, 3) := by decide +kernel
theorem dX5_sits_40 : decode cX5_sits 40 = .ok (.goto (-36), 3) := by decide +kernel
theorem dX5_sits_43 : decode cX5_sits 43 = .ok (.iload_n 2, 1) := by decide +kernel
theorem dX5_sits_44 : decode cX5_sits 44 = .ok (.ifCond .ne 28, 3) := by decide +kernel
theorem dX5_sits_47 : decode cX5_sits 47 = .ok (.aload_n 0, 1) := by decide +kernel
theorem dX5_sits_48 : decode cX5_sits 48 = .ok (.getfield 16, 3) := by decide +kernel
theorem dX5_sits_51 : decode cX5_sits 51 = .ok (.bipush 33, 2) := by decide +kernel
theorem dX5_sits_53 : decode cX5_sits 53 = .ok (.aload_n 0, 1) := by decide +kernel
theorem dX5_sits_54 : decode cX5_sits 54 = .ok (.getfield 16, 3) := by decide +kernel
theorem dX5_sits_57 : decode cX5_sits 57 = .ok (.iconst 2, 1) := by decide +kernel
theorem dX5_sits_58 : decode cX5_sits 58 = .ok (.iaload, 1) := by decide +kernel
theorem dX5_sits_59 : decode cX5_sits 59 = .ok (.iadd, 1) := by decide +kernel
theorem dX5_sits_60 : decode cX5_sits 60 = .ok (.iload_n 1, 1) := by decide +kernel
theorem dX5_sits_61 : decode cX5_sits 61 = .ok (.iastore, 1) := by decide +kernel
theorem dX5_sits_62 : decode cX5_sits 62 = .ok (.aload_n 0, 1) := by decide +kernel
theorem dX5_sits_63 : decode cX5_sits 63 = .ok (.getfield 16, 3) := by decide +kernel
theorem dX5_sits_66 : decode cX5_sits 66 = .ok (.iconst 2, 1) := by decide +kernel
theorem dX5_sits_67 : decode cX5_sits 67 = .ok (.dup2, 1) := by decide +kernel
theorem dX5_sits_68 : decode cX5_sits 68 = .ok (.iaload, 1) := by decide +kernel
theorem dX5_sits_69 : decode cX5_sits 69 = .ok (.iconst 1, 1) := by decide +kernel
theorem dX5_sits_70 : decode cX5_sits 70 = .ok (.iadd, 1) := by decide +kernel
theorem dX5_sits_71 : decode cX5_sits 71 = .ok (.iastore, 1) := by decide +kernel
theorem dX5_sits_72 : decode cX5_sits 72 = .ok (.return_, 1) := by decide +kernel
theorem dX5_readsItem_0 : decode cX5_readsItem 0 = .ok (.iload_n 1, 1) := by decide +kernel
theorem dX5_readsItem_1 : decode cX5_readsItem 1 = .ok (.lookupswitch 245 #[(98, 114), (103, 217), (105, 43), (115, 189)], 43) := by decide +kernel
theorem dX5_readsItem_44 : decode cX5_readsItem 44 = .ok (.aload_n 0, 1) := by decide +kernel
theorem dX5_readsItem_45 : decode cX5_readsItem 45 = .ok (.iconst 3, 1) := by decide +kernel
theorem dX5_readsItem_46 : decode cX5_readsItem 46 = .ok (.bipush 44, 2) := by decide +kernel
theorem dX5_readsItem_48 : decode cX5_readsItem 48 = .ok (.invokevirtual 79, 3) := by decide +kernel
theorem dX5_readsItem_51 : decode cX5_readsItem 51 = .ok (.istore_n 2, 1) := by decide +kernel
theorem dX5_readsItem_52 : decode cX5_readsItem 52 = .ok (.iload_n 2, 1) := by decide +kernel
theorem dX5_readsItem_53 : decode cX5_readsItem 53 = .ok (.ifCond .ge 7, 3) := by decide +kernel
theorem dX5_readsItem_56 : decode cX5_readsItem 56 = .ok (.iconst (-1), 1) := by decide +kernel
theorem dX5_readsItem_57 : decode cX5_readsItem 57 = .ok (.goto 11, 3) := by decide +kernel
theorem dX5_readsItem_60 : decode cX5_readsItem 60 = .ok (.aload_n 0, 1) := by decide +kernel
theorem dX5_readsItem_61 : decode cX5_readsItem 61 = .ok (.bipush 6, 2) := by decide +kernel
theorem dX5_readsItem_63 : decode cX5_readsItem 63 = .ok (.bipush 44, 2) := by decide +kernel
theorem dX5_readsItem_65 : decode cX5_readsItem 65 = .ok (.invokevirtual 79, 3) := by decide +kernel
theorem dX5_readsItem_68 : decode cX5_readsItem 68 = .ok (.istore_n 3, 1) := by decide +kernel
theorem dX5_readsItem_69 : decode cX5_readsItem 69 = .ok (.iload_n 3, 1) := by decide +kernel
theorem dX5_readsItem_70 : decode cX5_readsItem 70 = .ok (.ifCond .ge 7, 3) := by decide +kernel
theorem dX5_readsItem_73 : decode cX5_readsItem 73 = .ok (.iconst (-1), 1) := by decide +kernel
theorem dX5_readsItem_74 : decode cX5_readsItem 74 = .ok (.goto 11, 3) := by decide +kernel
theorem dX5_readsItem_77 : decode cX5_readsItem 77 = .ok (.aload_n 0, 1) := by decide +kernel
theorem dX5_readsItem_78 : decode cX5_readsItem 78 = .ok (.bipush 30, 2) := by decide +kernel
theorem dX5_readsItem_80 : decode cX5_readsItem 80 = .ok (.bipush 59, 2) := by decide +kernel
theorem dX5_readsItem_82 : decode cX5_readsItem 82 = .ok (.invokevirtual 79, 3) := by decide +kernel
theorem dX5_readsItem_85 : decode cX5_readsItem 85 = .ok (.istore 4, 2) := by decide +kernel
theorem dX5_readsItem_87 : decode cX5_readsItem 87 = .ok (.iload 4, 2) := by decide +kernel
theorem dX5_readsItem_89 : decode cX5_readsItem 89 = .ok (.ifCond .lt 14, 3) := by decide +kernel
theorem dX5_readsItem_92 : decode cX5_readsItem 92 = .ok (.aload_n 0, 1) := by decide +kernel
theorem dX5_readsItem_93 : decode cX5_readsItem 93 = .ok (.getfield 16, 3) := by decide +kernel
theorem dX5_readsItem_96 : decode cX5_readsItem 96 = .ok (.iconst 0, 1) := by decide +kernel
theorem dX5_readsItem_97 : decode cX5_readsItem 97 = .ok (.iaload, 1) := by decide +kernel
theorem dX5_readsItem_98 : decode cX5_readsItem 98 = .ok (.bipush 7, 2) := by decide +kernel
theorem dX5_readsItem_100 : decode cX5_readsItem 100 = .ok (.if_icmp .ne 5, 3) := by decide +kernel
theorem dX5_readsItem_103 : decode cX5_readsItem 103 = .ok (.iconst 0, 1) := by decide +kernel
theorem dX5_readsItem_104 : decode cX5_readsItem 104 = .ok (.ireturn, 1) := by decide +kernel
theorem dX5_readsItem_105 : decode cX5_readsItem 105 = .ok (.aload_n 0, 1) := by decide +kernel
theorem dX5_readsItem_106 : decode cX5_readsItem 106 = .ok (.iload_n 2, 1) := by decide +kernel
theorem dX5_readsItem_107 : decode cX5_readsItem 107 = .ok (.iload_n 3, 1) := by decide +kernel
theorem dX5_readsItem_108 : decode cX5_readsItem 108 = .ok (.iload 4, 2) := by decide +kernel
theorem dX5_readsItem_110 : decode cX5_readsItem 110 = .ok (.invokevirtual 49, 3) := by decide +kernel
theorem dX5_readsItem_113 : decode cX5_readsItem 113 = .ok (.iconst 1, 1) := by decide +kernel
theorem dX5_readsItem_114 : decode cX5_readsItem 114 = .ok (.ireturn, 1) := by decide +kernel
theorem dX5_readsItem_115 : decode cX5_readsItem 115 = .ok (.aload_n 0, 1) := by decide +kernel
theorem dX5_readsItem_116 : decode cX5_readsItem 116 = .ok (.bipush 15, 2) := by decide +kernel
theorem dX5_readsItem_118 : decode cX5_readsItem 118 = .ok (.bipush 44, 2) := by decide +kernel
theorem dX5_readsItem_120 : decode cX5_readsItem 120 = .ok (.invokevirtual 79, 3) := by decide +kernel
theorem dX5_readsItem_123 : decode cX5_readsItem 123 = .ok (.istore_n 2, 1) := by decide +kernel
theorem dX5_readsItem_124 : decode cX5_readsItem 124 = .ok (.iload_n 2, 1) := by decide +kernel
theorem dX5_readsItem_125 : decode cX5_readsItem 125 = .ok (.ifCond .ge 7, 3) := by decide +kernel
theorem dX5_readsItem_128 : decode cX5_readsItem 128 = .ok (.iconst (-1), 1) := by decide +kernel
theorem dX5_readsItem_129 : decode cX5_readsItem 129 = .ok (.goto 11, 3) := by decide +kernel
theorem dX5_readsItem_132 : decode cX5_readsItem 132 = .ok (.aload_n 0, 1) := by decide +kernel
theorem dX5_readsItem_133 : decode cX5_readsItem 133 = .ok (.bipush 7, 2) := by decide +kernel
theorem dX5_readsItem_135 : decode cX5_readsItem 135 = .ok (.bipush 59, 2) := by decide +kernel
theorem dX5_readsItem_137 : decode cX5_readsItem 137 = .ok (.invokevirtual 79, 3) := by decide +kernel
theorem dX5_readsItem_140 : decode cX5_readsItem 140 = .ok (.istore_n 3, 1) := by decide +kernel
theorem dX5_readsItem_141 : decode cX5_readsItem 141 = .ok (.iload_n 3, 1) := by decide +kernel
theorem dX5_readsItem_142 : decode cX5_readsItem 142 = .ok (.ifCond .lt 14, 3) := by decide +kernel
theorem dX5_readsItem_145 : decode cX5_readsItem 145 = .ok (.aload_n 0, 1) := by decide +kernel
theorem dX5_readsItem_146 : decode cX5_readsItem 146 = .ok (.getfield 16, 3) := by decide +kernel
theorem dX5_readsItem_149 : decode cX5_readsItem 149 = .ok (.iconst 1, 1) := by decide +kernel
theorem dX5_readsItem_150 : decode cX5_readsItem 150 = .ok (.iaload, 1) := by decide +kernel
theorem dX5_readsItem_151 : decode cX5_readsItem 151 = .ok (.bipush 8, 2) := by decide +kernel
theorem dX5_readsItem_153 : decode cX5_readsItem 153 = .ok (.if_icmp .ne 5, 3) := by decide +kernel
theorem dX5_readsItem_156 : decode cX5_readsItem 156 = .ok (.iconst 0, 1) := by decide +kernel
theorem dX5_readsItem_157 : decode cX5_readsItem 157 = .ok (.ireturn, 1) := by decide +kernel
theorem dX5_readsItem_158 : decode cX5_readsItem 158 = .ok (.aload_n 0, 1) := by decide +kernel
theorem dX5_readsItem_159 : decode cX5_readsItem 159 = .ok (.getfield 16, 3) := by decide +kernel
theorem dX5_readsItem_162 : decode cX5_readsItem 162 = .ok (.bipush 25, 2) := by decide +kernel
theorem dX5_readsItem_164 : decode cX5_readsItem 164 = .ok (.aload_n 0, 1) := by decide +kernel
theorem dX5_readsItem_165 : decode cX5_readsItem 165 = .ok (.getfield 16, 3) := by decide +kernel
theorem dX5_readsItem_168 : decode cX5_readsItem 168 = .ok (.iconst 1, 1) := by decide +kernel
theorem dX5_readsItem_169 : decode cX5_readsItem 169 = .ok (.iaload, 1) := by decide +kernel
theorem dX5_readsItem_170 : decode cX5_readsItem 170 = .ok (.iadd, 1) := by decide +kernel
theorem dX5_readsItem_171 : decode cX5_readsItem 171 = .ok (.iload_n 2, 1) := by decide +kernel
theorem dX5_readsItem_172 : decode cX5_readsItem 172 = .ok (.bipush 16, 2) := by decide +kernel
theorem dX5_readsItem_174 : decode cX5_readsItem 174 = .ok (.iload_n 3, 1) := by decide +kernel
theorem dX5_readsItem_175 : decode cX5_readsItem 175 = .ok (.imul, 1) := by decide +kernel
theorem dX5_readsItem_176 : decode cX5_readsItem 176 = .ok (.iadd, 1) := by decide +kernel
theorem dX5_readsItem_177 : decode cX5_readsItem 177 = .ok (.iastore, 1) := by decide +kernel
theorem dX5_readsItem_178 : decode cX5_readsItem 178 = .ok (.aload_n 0, 1) := by decide +kernel
theorem dX5_readsItem_179 : decode cX5_readsItem 179 = .ok (.getfield 16, 3) := by decide +kernel
theorem dX5_readsItem_182 : decode cX5_readsItem 182 = .ok (.iconst 1, 1) := by decide +kernel
theorem dX5_readsItem_183 : decode cX5_readsItem 183 = .ok (.dup2, 1) := by decide +kernel
theorem dX5_readsItem_184 : decode cX5_readsItem 184 = .ok (.iaload, 1) := by decide +kernel
theorem dX5_readsItem_185 : decode cX5_readsItem 185 = .ok (.iconst 1, 1) := by decide +kernel
theorem dX5_readsItem_186 : decode cX5_readsItem 186 = .ok (.iadd, 1) := by decide +kernel
theorem dX5_readsItem_187 : decode cX5_readsItem 187 = .ok (.iastore, 1) := by decide +kernel
theorem dX5_readsItem_188 : decode cX5_readsItem 188 = .ok (.iconst 1, 1) := by decide +kernel
theorem dX5_readsItem_189 : decode cX5_readsItem 189 = .ok (.ireturn, 1) := by decide +kernel
theorem dX5_readsItem_190 : decode cX5_readsItem 190 = .ok (.aload_n 0, 1) := by decide +kernel
theorem dX5_readsItem_191 : decode cX5_readsItem 191 = .ok (.aload_n 0, 1) := by decide +kernel
theorem dX5_readsItem_192 : decode cX5_readsItem 192 = .ok (.getfield 16, 3) := by decide +kernel
theorem dX5_readsItem_195 : decode cX5_readsItem 195 = .ok (.iconst 0, 1) := by decide +kernel
theorem dX5_readsItem_196 : decode cX5_readsItem 196 = .ok (.iaload, 1) := by decide +kernel
theorem dX5_readsItem_197 : decode cX5_readsItem 197 = .ok (.iconst 1, 1) := by decide +kernel
theorem dX5_readsItem_198 : decode cX5_readsItem 198 = .ok (.isub, 1) := by decide +kernel
theorem dX5_readsItem_199 : decode cX5_readsItem 199 = .ok (.bipush 59, 2) := by decide +kernel
theorem dX5_readsItem_201 : decode cX5_readsItem 201 = .ok (.invokevirtual 79, 3) := by decide +kernel
theorem dX5_readsItem_204 : decode cX5_readsItem 204 = .ok (.istore_n 2, 1) := by decide +kernel
theorem dX5_readsItem_205 : decode cX5_readsItem 205 = .ok (.iload_n 2, 1) := by decide +kernel
theorem dX5_readsItem_206 : decode cX5_readsItem 206 = .ok (.ifCond .ge 5, 3) := by decide +kernel
theorem dX5_readsItem_209 : decode cX5_readsItem 209 = .ok (.iconst 0, 1) := by decide +kernel
theorem dX5_readsItem_210 : decode cX5_readsItem 210 = .ok (.ireturn, 1) := by decide +kernel
theorem dX5_readsItem_211 : decode cX5_readsItem 211 = .ok (.aload_n 0, 1) := by decide +kernel
theorem dX5_readsItem_212 : decode cX5_readsItem 212 = .ok (.iload_n 2, 1) := by decide +kernel
theorem dX5_readsItem_213 : decode cX5_readsItem 213 = .ok (.invokevirtual 53, 3) := by decide +kernel
theorem dX5_readsItem_216 : decode cX5_readsItem 216 = .ok (.iconst 1, 1) := by decide +kernel
theorem dX5_readsItem_217 : decode cX5_readsItem 217 = .ok (.ireturn, 1) := by decide +kernel
theorem dX5_readsItem_218 : decode cX5_readsItem 218 = .ok (.aload_n 0, 1) := by decide +kernel
theorem dX5_readsItem_219 : decode cX5_readsItem 219 = .ok (.iconst 5, 1) := by decide +kernel
theorem dX5_readsItem_220 : decode cX5_readsItem 220 = .ok (.bipush 59, 2) := by decide +kernel
theorem dX5_readsItem_222 : decode cX5_readsItem 222 = .ok (.invokevirtual 79, 3) := by decide +kernel
theorem dX5_readsItem_225 : decode cX5_readsItem 225 = .ok (.istore_n 2, 1) := by decide +kernel
theorem dX5_readsItem_226 : decode cX5_readsItem 226 = .ok (.iload_n 2, 1) := by decide +kernel
theorem dX5_readsItem_227 : decode cX5_readsItem 227 = .ok (.ifCond .ge 5, 3) := by decide +kernel
theorem dX5_readsItem_230 : decode cX5_readsItem 230 = .ok (.iconst 0, 1) := by decide +kernel
theorem dX5_readsItem_231 : decode cX5_readsItem 231 = .ok (.ireturn, 1) := by decide +kernel
theorem dX5_readsItem_232 : decode cX5_readsItem 232 = .ok (.aload_n 0, 1) := by decide +kernel
theorem dX5_readsItem_233 : decode cX5_readsItem 233 = .ok (.getfield 16, 3) := by decide +kernel
theorem dX5_readsItem_236 : decode cX5_readsItem 236 = .ok (.iconst 3, 1) := by decide +kernel
theorem dX5_readsItem_237 : decode cX5_readsItem 237 = .ok (.dup2, 1) := by decide +kernel
theorem dX5_readsItem_238 : decode cX5_readsItem 238 = .ok (.iaload, 1) := by decide +kernel
theorem dX5_readsItem_239 : decode cX5_readsItem 239 = .ok (.iconst 1, 1) := by decide +kernel
theorem dX5_readsItem_240 : decode cX5_readsItem 240 = .ok (.iload_n 2, 1) := by decide +kernel
theorem dX5_readsItem_241 : decode cX5_readsItem 241 = .ok (.ishl, 1) := by decide +kernel
theorem dX5_readsItem_242 : decode cX5_readsItem 242 = .ok (.ior, 1) := by decide +kernel
theorem dX5_readsItem_243 : decode cX5_readsItem 243 = .ok (.iastore, 1) := by decide +kernel
theorem dX5_readsItem_244 : decode cX5_readsItem 244 = .ok (.iconst 1, 1) := by decide +kernel
theorem dX5_readsItem_245 : decode cX5_readsItem 245 = .ok (.ireturn, 1) := by decide +kernel
theorem dX5_readsItem_246 : decode cX5_readsItem 246 = .ok (.iconst 0, 1) := by decide +kernel
theorem dX5_readsItem_247 : decode cX5_readsItem 247 = .ok (.ireturn, 1) := by decide +kernel
theorem dX5_reads_0 : decode cX5_reads 0 = .ok (.aload_n 0, 1) := by decide +kernel
theorem dX5_reads_1 : decode cX5_reads 1 = .ok (.invokevirtual 46, 3) := by decide +kernel
theorem dX5_reads_4 : decode cX5_reads 4 = .ok (.aload_n 0, 1) := by decide +kernel
theorem dX5_reads_5 : decode cX5_reads 5 = .ok (.iconst 0, 1) := by decide +kernel
theorem dX5_reads_6 : decode cX5_reads 6 = .ok (.putfield 68, 3) := by decide +kernel
theorem dX5_reads_9 : decode cX5_reads 9 = .ok (.aload_n 0, 1) := by decide +kernel
theorem dX5_reads_10 : decode cX5_reads 10 = .ok (.getfield 68, 3) := by decide +kernel
theorem dX5_reads_13 : decode cX5_reads 13 = .ok (.aload_n 0, 1) := by decide +kernel
theorem dX5_reads_14 : decode cX5_reads 14 = .ok (.getfield 64, 3) := by decide +kernel
theorem dX5_reads_17 : decode cX5_reads 17 = .ok (.if_icmp .ge 36, 3) := by decide +kernel
theorem dX5_reads_20 : decode cX5_reads 20 = .ok (.aload_n 0, 1) := by decide +kernel
theorem dX5_reads_21 : decode cX5_reads 21 = .ok (.getfield 68, 3) := by decide +kernel
theorem dX5_reads_24 : decode cX5_reads 24 = .ok (.istore_n 1, 1) := by decide +kernel
theorem dX5_reads_25 : decode cX5_reads 25 = .ok (.aload_n 0, 1) := by decide +kernel
theorem dX5_reads_26 : decode cX5_reads 26 = .ok (.dup, 1) := by decide +kernel
theorem dX5_reads_27 : decode cX5_reads 27 = .ok (.getfield 68, 3) := by decide +kernel
theorem dX5_reads_30 : decode cX5_reads 30 = .ok (.iconst 1, 1) := by decide +kernel
theorem dX5_reads_31 : decode cX5_reads 31 = .ok (.iadd, 1) := by decide +kernel
theorem dX5_reads_32 : decode cX5_reads 32 = .ok (.putfield 68, 3) := by decide +kernel
theorem dX5_reads_35 : decode cX5_reads 35 = .ok (.aload_n 0, 1) := by decide +kernel
theorem dX5_reads_36 : decode cX5_reads 36 = .ok (.aload_n 0, 1) := by decide +kernel
theorem dX5_reads_37 : decode cX5_reads 37 = .ok (.getfield 7, 3) := by decide +kernel
theorem dX5_reads_40 : decode cX5_reads 40 = .ok (.iload_n 1, 1) := by decide +kernel
theorem dX5_reads_41 : decode cX5_reads 41 = .ok (.iaload, 1) := by decide +kernel
theorem dX5_reads_42 : decode cX5_reads 42 = .ok (.invokevirtual 83, 3) := by decide +kernel
theorem dX5_reads_45 : decode cX5_reads 45 = .ok (.ifCond .ne 5, 3) := by decide +kernel
theorem dX5_reads_48 : decode cX5_reads 48 = .ok (.iload_n 1, 1) := by decide +kernel
theorem dX5_reads_49 : decode cX5_reads 49 = .ok (.ireturn, 1) := by decide +kernel
theorem dX5_reads_50 : decode cX5_reads 50 = .ok (.goto (-41), 3) := by decide +kernel
theorem dX5_reads_53 : decode cX5_reads 53 = .ok (.bipush (-4), 2) := by decide +kernel
theorem dX5_reads_55 : decode cX5_reads 55 = .ok (.ireturn, 1) := by decide +kernel
theorem dX5_fault_0 : decode cX5_fault 0 = .ok (.aload_n 0, 1) := by decide +kernel
theorem dX5_fault_1 : decode cX5_fault 1 = .ok (.invokevirtual 86, 3) := by decide +kernel
theorem dX5_fault_4 : decode cX5_fault 4 = .ok (.ireturn, 1) := by decide +kernel
theorem dX5_lays_0 : decode cX5_lays 0 = .ok (.iconst 0, 1) := by decide +kernel
theorem dX5_lays_1 : decode cX5_lays 1 = .ok (.istore_n 1, 1) := by decide +kernel
theorem dX5_lays_2 : decode cX5_lays 2 = .ok (.iload_n 1, 1) := by decide +kernel
theorem dX5_lays_3 : decode cX5_lays 3 = .ok (.aload_n 0, 1) := by decide +kernel
theorem dX5_lays_4 : decode cX5_lays 4 = .ok (.getfield 16, 3) := by decide +kernel
theorem dX5_lays_7 : decode cX5_lays 7 = .ok (.iconst 0, 1) := by decide +kernel
theorem dX5_lays_8 : decode cX5_lays 8 = .ok (.iaload, 1) := by decide +kernel
theorem dX5_lays_9 : decode cX5_lays 9 = .ok (.if_icmp .ge 14, 3) := by decide +kernel
theorem dX5_lays_12 : decode cX5_lays 12 = .ok (.aload_n 0, 1) := by decide +kernel
theorem dX5_lays_13 : decode cX5_lays 13 = .ok (.iload_n 1, 1) := by decide +kernel
theorem dX5_lays_14 : decode cX5_lays 14 = .ok (.invokevirtual 53, 3) := by decide +kernel
theorem dX5_lays_17 : decode cX5_lays 17 = .ok (.iinc 1 1, 3) := by decide +kernel
theorem dX5_lays_20 : decode cX5_lays 20 = .ok (.goto (-18), 3) := by decide +kernel
theorem dX5_lays_23 : decode cX5_lays 23 = .ok (.iconst 0, 1) := by decide +kernel
theorem dX5_lays_24 : decode cX5_lays 24 = .ok (.istore_n 1, 1) := by decide +kernel
theorem dX5_lays_25 : decode cX5_lays 25 = .ok (.iload_n 1, 1) := by decide +kernel
theorem dX5_lays_26 : decode cX5_lays 26 = .ok (.bipush 40, 2) := by decide +kernel
theorem dX5_lays_28 : decode cX5_lays 28 = .ok (.if_icmp .ge 21, 3) := by decide +kernel
theorem dX5_lays_31 : decode cX5_lays 31 = .ok (.aload_n 0, 1) := by decide +kernel
theorem dX5_lays_32 : decode cX5_lays 32 = .ok (.getfield 13, 3) := by decide +kernel
theorem dX5_lays_35 : decode cX5_lays 35 = .ok (.iload_n 1, 1) := by decide +kernel
theorem dX5_lays_36 : decode cX5_lays 36 = .ok (.aload_n 0, 1) := by decide +kernel
theorem dX5_lays_37 : decode cX5_lays 37 = .ok (.getfield 16, 3) := by decide +kernel
theorem dX5_lays_40 : decode cX5_lays 40 = .ok (.iload_n 1, 1) := by decide +kernel
theorem dX5_lays_41 : decode cX5_lays 41 = .ok (.iaload, 1) := by decide +kernel
theorem dX5_lays_42 : decode cX5_lays 42 = .ok (.iastore, 1) := by decide +kernel
theorem dX5_lays_43 : decode cX5_lays 43 = .ok (.iinc 1 1, 3) := by decide +kernel
theorem dX5_lays_46 : decode cX5_lays 46 = .ok (.goto (-21), 3) := by decide +kernel
theorem dX5_lays_49 : decode cX5_lays 49 = .ok (.iconst 0, 1) := by decide +kernel
theorem dX5_lays_50 : decode cX5_lays 50 = .ok (.istore_n 1, 1) := by decide +kernel
theorem dX5_lays_51 : decode cX5_lays 51 = .ok (.iload_n 1, 1) := by decide +kernel
theorem dX5_lays_52 : decode cX5_lays 52 = .ok (.bipush 7, 2) := by decide +kernel
theorem dX5_lays_54 : decode cX5_lays 54 = .ok (.if_icmp .ge 24, 3) := by decide +kernel
theorem dX5_lays_57 : decode cX5_lays 57 = .ok (.aload_n 0, 1) := by decide +kernel
theorem dX5_lays_58 : decode cX5_lays 58 = .ok (.getfield 19, 3) := by decide +kernel
theorem dX5_lays_61 : decode cX5_lays 61 = .ok (.iload_n 1, 1) := by decide +kernel
theorem dX5_lays_62 : decode cX5_lays 62 = .ok (.aload_n 0, 1) := by decide +kernel
theorem dX5_lays_63 : decode cX5_lays 63 = .ok (.getfield 13, 3) := by decide +kernel
theorem dX5_lays_66 : decode cX5_lays 66 = .ok (.bipush 33, 2) := by decide +kernel
theorem dX5_lays_68 : decode cX5_lays 68 = .ok (.iload_n 1, 1) := by decide +kernel
theorem dX5_lays_69 : decode cX5_lays 69 = .ok (.iadd, 1) := by decide +kernel
theorem dX5_lays_70 : decode cX5_lays 70 = .ok (.iaload, 1) := by decide +kernel
theorem dX5_lays_71 : decode cX5_lays 71 = .ok (.iastore, 1) := by decide +kernel
theorem dX5_lays_72 : decode cX5_lays 72 = .ok (.iinc 1 1, 3) := by decide +kernel
theorem dX5_lays_75 : decode cX5_lays 75 = .ok (.goto (-24), 3) := by decide +kernel
theorem dX5_lays_78 : decode cX5_lays 78 = .ok (.aload_n 0, 1) := by decide +kernel
theorem dX5_lays_79 : decode cX5_lays 79 = .ok (.getfield 19, 3) := by decide +kernel
theorem dX5_lays_82 : decode cX5_lays 82 = .ok (.bipush 7, 2) := by decide +kernel
theorem dX5_lays_84 : decode cX5_lays 84 = .ok (.iconst 0, 1) := by decide +kernel
theorem dX5_lays_85 : decode cX5_lays 85 = .ok (.iastore, 1) := by decide +kernel
theorem dX5_lays_86 : decode cX5_lays 86 = .ok (.aload_n 0, 1) := by decide +kernel
theorem dX5_lays_87 : decode cX5_lays 87 = .ok (.iconst 0, 1) := by decide +kernel
theorem dX5_lays_88 : decode cX5_lays 88 = .ok (.putfield 90, 3) := by decide +kernel
theorem dX5_lays_91 : decode cX5_lays 91 = .ok (.aload_n 0, 1) := by decide +kernel
theorem dX5_lays_92 : decode cX5_lays 92 = .ok (.iconst 0, 1) := by decide +kernel
theorem dX5_lays_93 : decode cX5_lays 93 = .ok (.putfield 93, 3) := by decide +kernel
theorem dX5_lays_96 : decode cX5_lays 96 = .ok (.aload_n 0, 1) := by decide +kernel
theorem dX5_lays_97 : decode cX5_lays 97 = .ok (.iconst 0, 1) := by decide +kernel
theorem dX5_lays_98 : decode cX5_lays 98 = .ok (.putfield 96, 3) := by decide +kernel
theorem dX5_lays_101 : decode cX5_lays 101 = .ok (.return_, 1) := by decide +kernel
theorem dX5_lay_0 : decode cX5_lay 0 = .ok (.aload_n 0, 1) := by decide +kernel
theorem dX5_lay_1 : decode cX5_lay 1 = .ok (.invokevirtual 86, 3) := by decide +kernel
theorem dX5_lay_4 : decode cX5_lay 4 = .ok (.bipush (-4), 2) := by decide +kernel
theorem dX5_lay_6 : decode cX5_lay 6 = .ok (.if_icmp .ne 16, 3) := by decide +kernel
theorem dX5_lay_9 : decode cX5_lay 9 = .ok (.aload_n 0, 1) := by decide +kernel
theorem dX5_lay_10 : decode cX5_lay 10 = .ok (.getfield 16, 3) := by decide +kernel
theorem dX5_lay_13 : decode cX5_lay 13 = .ok (.iconst 0, 1) := by decide +kernel
theorem dX5_lay_14 : decode cX5_lay 14 = .ok (.iaload, 1) := by decide +kernel
theorem dX5_lay_15 : decode cX5_lay 15 = .ok (.ifCond .le 7, 3) := by decide +kernel
theorem dX5_lay_18 : decode cX5_lay 18 = .ok (.iconst 1, 1) := by decide +kernel
theorem dX5_lay_19 : decode cX5_lay 19 = .ok (.goto 4, 3) := by decide +kernel
theorem dX5_lay_22 : decode cX5_lay 22 = .ok (.iconst 0, 1) := by decide +kernel
theorem dX5_lay_23 : decode cX5_lay 23 = .ok (.istore_n 1, 1) := by decide +kernel
theorem dX5_lay_24 : decode cX5_lay 24 = .ok (.iconst 0, 1) := by decide +kernel
theorem dX5_lay_25 : decode cX5_lay 25 = .ok (.istore_n 2, 1) := by decide +kernel
theorem dX5_lay_26 : decode cX5_lay 26 = .ok (.iload_n 2, 1) := by decide +kernel
theorem dX5_lay_27 : decode cX5_lay 27 = .ok (.aload_n 0, 1) := by decide +kernel
theorem dX5_lay_28 : decode cX5_lay 28 = .ok (.getfield 16, 3) := by decide +kernel
theorem dX5_lay_31 : decode cX5_lay 31 = .ok (.iconst 0, 1) := by decide +kernel
theorem dX5_lay_32 : decode cX5_lay 32 = .ok (.iaload, 1) := by decide +kernel
theorem dX5_lay_33 : decode cX5_lay 33 = .ok (.if_icmp .ge 37, 3) := by decide +kernel
theorem dX5_lay_36 : decode cX5_lay 36 = .ok (.iload_n 1, 1) := by decide +kernel
theorem dX5_lay_37 : decode cX5_lay 37 = .ok (.ifCond .eq 25, 3) := by decide +kernel
theorem dX5_lay_40 : decode cX5_lay 40 = .ok (.aload_n 0, 1) := by decide +kernel
theorem dX5_lay_41 : decode cX5_lay 41 = .ok (.getfield 16, 3) := by decide +kernel
theorem dX5_lay_44 : decode cX5_lay 44 = .ok (.bipush 11, 2) := by decide +kernel
theorem dX5_lay_46 : decode cX5_lay 46 = .ok (.iload_n 2, 1) := by decide +kernel
theorem dX5_lay_47 : decode cX5_lay 47 = .ok (.iadd, 1) := by decide +kernel
theorem dX5_lay_48 : decode cX5_lay 48 = .ok (.iaload, 1) := by decide +kernel
theorem dX5_lay_49 : decode cX5_lay 49 = .ok (.aload_n 0, 1) := by decide +kernel
theorem dX5_lay_50 : decode cX5_lay 50 = .ok (.getfield 16, 3) := by decide +kernel
theorem dX5_lay_53 : decode cX5_lay 53 = .ok (.iconst 0, 1) := by decide +kernel
theorem dX5_lay_54 : decode cX5_lay 54 = .ok (.iaload, 1) := by decide +kernel
theorem dX5_lay_55 : decode cX5_lay 55 = .ok (.if_icmp .ge 7, 3) := by decide +kernel
theorem dX5_lay_58 : decode cX5_lay 58 = .ok (.iconst 1, 1) := by decide +kernel
theorem dX5_lay_59 : decode cX5_lay 59 = .ok (.goto 4, 3) := by decide +kernel
theorem dX5_lay_62 : decode cX5_lay 62 = .ok (.iconst 0, 1) := by decide +kernel
theorem dX5_lay_63 : decode cX5_lay 63 = .ok (.istore_n 1, 1) := by decide +kernel
theorem dX5_lay_64 : decode cX5_lay 64 = .ok (.iinc 2 1, 3) := by decide +kernel
theorem dX5_lay_67 : decode cX5_lay 67 = .ok (.goto (-41), 3) := by decide +kernel
theorem dX5_lay_70 : decode cX5_lay 70 = .ok (.iconst 0, 1) := by decide +kernel
theorem dX5_lay_71 : decode cX5_lay 71 = .ok (.istore_n 2, 1) := by decide +kernel
theorem dX5_lay_72 : decode cX5_lay 72 = .ok (.iload_n 2, 1) := by decide +kernel
theorem dX5_lay_73 : decode cX5_lay 73 = .ok (.aload_n 0, 1) := by decide +kernel
theorem dX5_lay_74 : decode cX5_lay 74 = .ok (.getfield 16, 3) := by decide +kernel
theorem dX5_lay_77 : decode cX5_lay 77 = .ok (.iconst 1, 1) := by decide +kernel
theorem dX5_lay_78 : decode cX5_lay 78 = .ok (.iaload, 1) := by decide +kernel
theorem dX5_lay_79 : decode cX5_lay 79 = .ok (.if_icmp .ge 39, 3) := by decide +kernel
theorem dX5_lay_82 : decode cX5_lay 82 = .ok (.iload_n 1, 1) := by decide +kernel
theorem dX5_lay_83 : decode cX5_lay 83 = .ok (.ifCond .eq 27, 3) := by decide +kernel
theorem dX5_lay_86 : decode cX5_lay 86 = .ok (.aload_n 0, 1) := by decide +kernel
theorem dX5_lay_87 : decode cX5_lay 87 = .ok (.getfield 16, 3) := by decide +kernel
theorem dX5_lay_90 : decode cX5_lay 90 = .ok (.bipush 25, 2) := by decide +kernel
theorem dX5_lay_92 : decode cX5_lay 92 = .ok (.iload_n 2, 1) := by decide +kernel
theorem dX5_lay_93 : decode cX5_lay 93 = .ok (.iadd, 1) := by decide +kernel
theorem dX5_lay_94 : decode cX5_lay 94 = .ok (.iaload, 1) := by decide +kernel
theorem dX5_lay_95 : decode cX5_lay 95 = .ok (.iconst 1, 1) := by decide +kernel
theorem dX5_lay_96 : decode cX5_lay 96 = .ok (.aload_n 0, 1) := by decide +kernel
theorem dX5_lay_97 : decode cX5_lay 97 = .ok (.getfield 16, 3) := by decide +kernel
theorem dX5_lay_100 : decode cX5_lay 100 = .ok (.iconst 0, 1) := by decide +kernel
theorem dX5_lay_101 : decode cX5_lay 101 = .ok (.iaload, 1) := by decide +kernel
theorem dX5_lay_102 : decode cX5_lay 102 = .ok (.ishl, 1) := by decide +kernel
theorem dX5_lay_103 : decode cX5_lay 103 = .ok (.if_icmp .ge 7, 3) := by decide +kernel
theorem dX5_lay_106 : decode cX5_lay 106 = .ok (.iconst 1, 1) := by decide +kernel
theorem dX5_lay_107 : decode cX5_lay 107 = .ok (.goto 4, 3) := by decide +kernel
theorem dX5_lay_110 : decode cX5_lay 110 = .ok (.iconst 0, 1) := by decide +kernel
theorem dX5_lay_111 : decode cX5_lay 111 = .ok (.istore_n 1, 1) := by decide +kernel
theorem dX5_lay_112 : decode cX5_lay 112 = .ok (.iinc 2 1, 3) := by decide +kernel
theorem dX5_lay_115 : decode cX5_lay 115 = .ok (.goto (-43), 3) := by decide +kernel
theorem dX5_lay_118 : decode cX5_lay 118 = .ok (.iload_n 1, 1) := by decide +kernel
theorem dX5_lay_119 : decode cX5_lay 119 = .ok (.ifCond .ne 6, 3) := by decide +kernel
theorem dX5_lay_122 : decode cX5_lay 122 = .ok (.bipush (-2), 2) := by decide +kernel
theorem dX5_lay_124 : decode cX5_lay 124 = .ok (.ireturn, 1) := by decide +kernel
theorem dX5_lay_125 : decode cX5_lay 125 = .ok (.aload_n 0, 1) := by decide +kernel
theorem dX5_lay_126 : decode cX5_lay 126 = .ok (.invokevirtual 57, 3) := by decide +kernel
theorem dX5_lay_129 : decode cX5_lay 129 = .ok (.aload_n 0, 1) := by decide +kernel
theorem dX5_lay_130 : decode cX5_lay 130 = .ok (.getfield 13, 3) := by decide +kernel
theorem dX5_lay_133 : decode cX5_lay 133 = .ok (.iconst 0, 1) := by decide +kernel
theorem dX5_lay_134 : decode cX5_lay 134 = .ok (.iaload, 1) := by decide +kernel
theorem dX5_lay_135 : decode cX5_lay 135 = .ok (.ireturn, 1) := by decide +kernel
theorem dX5_asItIs_0 : decode cX5_asItIs 0 = .ok (.iconst 0, 1) := by decide +kernel
theorem dX5_asItIs_1 : decode cX5_asItIs 1 = .ok (.istore_n 1, 1) := by decide +kernel
theorem dX5_asItIs_2 : decode cX5_asItIs 2 = .ok (.iload_n 1, 1) := by decide +kernel
theorem dX5_asItIs_3 : decode cX5_asItIs 3 = .ok (.bipush 7, 2) := by decide +kernel
theorem dX5_asItIs_5 : decode cX5_asItIs 5 = .ok (.if_icmp .ge 35, 3) := by decide +kernel
theorem dX5_asItIs_8 : decode cX5_asItIs 8 = .ok (.aload_n 0, 1) := by decide +kernel
theorem dX5_asItIs_9 : decode cX5_asItIs 9 = .ok (.getfield 31, 3) := by decide +kernel
theorem dX5_asItIs_12 : decode cX5_asItIs 12 = .ok (.iload_n 1, 1) := by decide +kernel
theorem dX5_asItIs_13 : decode cX5_asItIs 13 = .ok (.aload_n 0, 1) := by decide +kernel
theorem dX5_asItIs_14 : decode cX5_asItIs 14 = .ok (.getfield 19, 3) := by decide +kernel
theorem dX5_asItIs_17 : decode cX5_asItIs 17 = .ok (.iload_n 1, 1) := by decide +kernel
theorem dX5_asItIs_18 : decode cX5_asItIs 18 = .ok (.iaload, 1) := by decide +kernel
theorem dX5_asItIs_19 : decode cX5_asItIs 19 = .ok (.iastore, 1) := by decide +kernel
theorem dX5_asItIs_20 : decode cX5_asItIs 20 = .ok (.aload_n 0, 1) := by decide +kernel
theorem dX5_asItIs_21 : decode cX5_asItIs 21 = .ok (.getfield 37, 3) := by decide +kernel
theorem dX5_asItIs_24 : decode cX5_asItIs 24 = .ok (.iload_n 1, 1) := by decide +kernel
theorem dX5_asItIs_25 : decode cX5_asItIs 25 = .ok (.aload_n 0, 1) := by decide +kernel
theorem dX5_asItIs_26 : decode cX5_asItIs 26 = .ok (.getfield 13, 3) := by decide +kernel
theorem dX5_asItIs_29 : decode cX5_asItIs 29 = .ok (.iconst 4, 1) := by decide +kernel
theorem dX5_asItIs_30 : decode cX5_asItIs 30 = .ok (.iload_n 1, 1) := by decide +kernel
theorem dX5_asItIs_31 : decode cX5_asItIs 31 = .ok (.iadd, 1) := by decide +kernel
theorem dX5_asItIs_32 : decode cX5_asItIs 32 = .ok (.iaload, 1) := by decide +kernel
theorem dX5_asItIs_33 : decode cX5_asItIs 33 = .ok (.iastore, 1) := by decide +kernel
theorem dX5_asItIs_34 : decode cX5_asItIs 34 = .ok (.iinc 1 1, 3) := by decide +kernel
theorem dX5_asItIs_37 : decode cX5_asItIs 37 = .ok (.goto (-35), 3) := by decide +kernel
theorem dX5_asItIs_40 : decode cX5_asItIs 40 = .ok (.aload_n 0, 1) := by decide +kernel
theorem dX5_asItIs_41 : decode cX5_asItIs 41 = .ok (.aload_n 0, 1) := by decide +kernel
theorem dX5_asItIs_42 : decode cX5_asItIs 42 = .ok (.getfield 19, 3) := by decide +kernel
theorem dX5_asItIs_45 : decode cX5_asItIs 45 = .ok (.bipush 7, 2) := by decide +kernel
theorem dX5_asItIs_47 : decode cX5_asItIs 47 = .ok (.iaload, 1) := by decide +kernel
theorem dX5_asItIs_48 : decode cX5_asItIs 48 = .ok (.putfield 99, 3) := by decide +kernel
theorem dX5_asItIs_51 : decode cX5_asItIs 51 = .ok (.aload_n 0, 1) := by decide +kernel
theorem dX5_asItIs_52 : decode cX5_asItIs 52 = .ok (.aload_n 0, 1) := by decide +kernel
theorem dX5_asItIs_53 : decode cX5_asItIs 53 = .ok (.getfield 13, 3) := by decide +kernel
theorem dX5_asItIs_56 : decode cX5_asItIs 56 = .ok (.iconst 3, 1) := by decide +kernel
theorem dX5_asItIs_57 : decode cX5_asItIs 57 = .ok (.iaload, 1) := by decide +kernel
theorem dX5_asItIs_58 : decode cX5_asItIs 58 = .ok (.putfield 102, 3) := by decide +kernel
theorem dX5_asItIs_61 : decode cX5_asItIs 61 = .ok (.aload_n 0, 1) := by decide +kernel
theorem dX5_asItIs_62 : decode cX5_asItIs 62 = .ok (.iconst 0, 1) := by decide +kernel
theorem dX5_asItIs_63 : decode cX5_asItIs 63 = .ok (.putfield 105, 3) := by decide +kernel
theorem dX5_asItIs_66 : decode cX5_asItIs 66 = .ok (.return_, 1) := by decide +kernel
theorem dX5_wants_0 : decode cX5_wants 0 = .ok (.aload_n 0, 1) := by decide +kernel
theorem dX5_wants_1 : decode cX5_wants 1 = .ok (.getfield 99, 3) := by decide +kernel
theorem dX5_wants_4 : decode cX5_wants 4 = .ok (.iload_n 1, 1) := by decide +kernel
theorem dX5_wants_5 : decode cX5_wants 5 = .ok (.ishr, 1) := by decide +kernel
theorem dX5_wants_6 : decode cX5_wants 6 = .ok (.iconst 1, 1) := by decide +kernel
theorem dX5_wants_7 : decode cX5_wants 7 = .ok (.iand, 1) := by decide +kernel
theorem dX5_wants_8 : decode cX5_wants 8 = .ok (.iconst 1, 1) := by decide +kernel
theorem dX5_wants_9 : decode cX5_wants 9 = .ok (.if_icmp .eq 12, 3) := by decide +kernel
theorem dX5_wants_12 : decode cX5_wants 12 = .ok (.aload_n 0, 1) := by decide +kernel
theorem dX5_wants_13 : decode cX5_wants 13 = .ok (.getfield 37, 3) := by decide +kernel
theorem dX5_wants_16 : decode cX5_wants 16 = .ok (.iload_n 1, 1) := by decide +kernel
theorem dX5_wants_17 : decode cX5_wants 17 = .ok (.iaload, 1) := by decide +kernel
theorem dX5_wants_18 : decode cX5_wants 18 = .ok (.ifCond .ne 5, 3) := by decide +kernel
theorem dX5_wants_21 : decode cX5_wants 21 = .ok (.iconst 1, 1) := by decide +kernel
theorem dX5_wants_22 : decode cX5_wants 22 = .ok (.ireturn, 1) := by decide +kernel
theorem dX5_wants_23 : decode cX5_wants 23 = .ok (.aload_n 0, 1) := by decide +kernel
theorem dX5_wants_24 : decode cX5_wants 24 = .ok (.getfield 13, 3) := by decide +kernel
theorem dX5_wants_27 : decode cX5_wants 27 = .ok (.bipush 11, 2) := by decide +kernel
theorem dX5_wants_29 : decode cX5_wants 29 = .ok (.iload_n 1, 1) := by decide +kernel
theorem dX5_wants_30 : decode cX5_wants 30 = .ok (.iadd, 1) := by decide +kernel
theorem dX5_wants_31 : decode cX5_wants 31 = .ok (.iaload, 1) := by decide +kernel
theorem dX5_wants_32 : decode cX5_wants 32 = .ok (.istore 4, 2) := by decide +kernel
theorem dX5_wants_34 : decode cX5_wants 34 = .ok (.aload_n 0, 1) := by decide +kernel
theorem dX5_wants_35 : decode cX5_wants 35 = .ok (.getfield 37, 3) := by decide +kernel
theorem dX5_wants_38 : decode cX5_wants 38 = .ok (.iload_n 1, 1) := by decide +kernel
theorem dX5_wants_39 : decode cX5_wants 39 = .ok (.iaload, 1) := by decide +kernel
theorem dX5_wants_40 : decode cX5_wants 40 = .ok (.iconst 1, 1) := by decide +kernel
theorem dX5_wants_41 : decode cX5_wants 41 = .ok (.if_icmp .ne 23, 3) := by decide +kernel
theorem dX5_wants_44 : decode cX5_wants 44 = .ok (.aload_n 0, 1) := by decide +kernel
theorem dX5_wants_45 : decode cX5_wants 45 = .ok (.getfield 34, 3) := by decide +kernel
theorem dX5_wants_48 : decode cX5_wants 48 = .ok (.iload_n 1, 1) := by decide +kernel
theorem dX5_wants_49 : decode cX5_wants 49 = .ok (.iaload, 1) := by decide +kernel
theorem dX5_wants_50 : decode cX5_wants 50 = .ok (.iload 4, 2) := by decide +kernel
theorem dX5_wants_52 : decode cX5_wants 52 = .ok (.ishr, 1) := by decide +kernel
theorem dX5_wants_53 : decode cX5_wants 53 = .ok (.iconst 1, 1) := by decide +kernel
theorem dX5_wants_54 : decode cX5_wants 54 = .ok (.iand, 1) := by decide +kernel
theorem dX5_wants_55 : decode cX5_wants 55 = .ok (.ifCond .ne 7, 3) := by decide +kernel
theorem dX5_wants_58 : decode cX5_wants 58 = .ok (.iconst 1, 1) := by decide +kernel
theorem dX5_wants_59 : decode cX5_wants 59 = .ok (.goto 4, 3) := by decide +kernel
theorem dX5_wants_62 : decode cX5_wants 62 = .ok (.iconst 0, 1) := by decide +kernel
theorem dX5_wants_63 : decode cX5_wants 63 = .ok (.ireturn, 1) := by decide +kernel
theorem dX5_wants_64 : decode cX5_wants 64 = .ok (.iload_n 2, 1) := by decide +kernel
theorem dX5_wants_65 : decode cX5_wants 65 = .ok (.ifCond .eq 37, 3) := by decide +kernel
theorem dX5_wants_68 : decode cX5_wants 68 = .ok (.aload_n 0, 1) := by decide +kernel
theorem dX5_wants_69 : decode cX5_wants 69 = .ok (.getfield 37, 3) := by decide +kernel
theorem dX5_wants_72 : decode cX5_wants 72 = .ok (.iload_n 1, 1) := by decide +kernel
theorem dX5_wants_73 : decode cX5_wants 73 = .ok (.iaload, 1) := by decide +kernel
theorem dX5_wants_74 : decode cX5_wants 74 = .ok (.iconst 2, 1) := by decide +kernel
theorem dX5_wants_75 : decode cX5_wants 75 = .ok (.if_icmp .ne 16, 3) := by decide +kernel
theorem dX5_wants_78 : decode cX5_wants 78 = .ok (.iload_n 3, 1) := by decide +kernel
theorem dX5_wants_79 : decode cX5_wants 79 = .ok (.iload 4, 2) := by decide +kernel
theorem dX5_wants_81 : decode cX5_wants 81 = .ok (.ishr, 1) := by decide +kernel
theorem dX5_wants_82 : decode cX5_wants 82 = .ok (.iconst 1, 1) := by decide +kernel
theorem dX5_wants_83 : decode cX5_wants 83 = .ok (.iand, 1) := by decide +kernel
theorem dX5_wants_84 : decode cX5_wants 84 = .ok (.iconst 1, 1) := by decide +kernel
theorem dX5_wants_85 : decode cX5_wants 85 = .ok (.if_icmp .ne 21, 3) := by decide +kernel
theorem dX5_wants_88 : decode cX5_wants 88 = .ok (.goto 14, 3) := by decide +kernel
theorem dX5_wants_91 : decode cX5_wants 91 = .ok (.aload_n 0, 1) := by decide +kernel
theorem dX5_wants_92 : decode cX5_wants 92 = .ok (.getfield 34, 3) := by decide +kernel
theorem dX5_wants_95 : decode cX5_wants 95 = .ok (.iload_n 1, 1) := by decide +kernel
theorem dX5_wants_96 : decode cX5_wants 96 = .ok (.iaload, 1) := by decide +kernel
theorem dX5_wants_97 : decode cX5_wants 97 = .ok (.iload_n 3, 1) := by decide +kernel
theorem dX5_wants_98 : decode cX5_wants 98 = .ok (.iand, 1) := by decide +kernel
theorem dX5_wants_99 : decode cX5_wants 99 = .ok (.ifCond .ne 7, 3) := by decide +kernel
theorem dX5_wants_102 : decode cX5_wants 102 = .ok (.iconst 1, 1) := by decide +kernel
theorem dX5_wants_103 : decode cX5_wants 103 = .ok (.goto 4, 3) := by decide +kernel
theorem dX5_wants_106 : decode cX5_wants 106 = .ok (.iconst 0, 1) := by decide +kernel
theorem dX5_wants_107 : decode cX5_wants 107 = .ok (.ireturn, 1) := by decide +kernel
theorem dX5_askedIn_0 : decode cX5_askedIn 0 = .ok (.aload_n 0, 1) := by decide +kernel
theorem dX5_askedIn_1 : decode cX5_askedIn 1 = .ok (.getfield 13, 3) := by decide +kernel
theorem dX5_askedIn_4 : decode cX5_askedIn 4 = .ok (.bipush 25, 2) := by decide +kernel
theorem dX5_askedIn_6 : decode cX5_askedIn 6 = .ok (.iload_n 1, 1) := by decide +kernel
theorem dX5_askedIn_7 : decode cX5_askedIn 7 = .ok (.iadd, 1) := by decide +kernel
theorem dX5_askedIn_8 : decode cX5_askedIn 8 = .ok (.iaload, 1) := by decide +kernel
theorem dX5_askedIn_9 : decode cX5_askedIn 9 = .ok (.aload_n 0, 1) := by decide +kernel
theorem dX5_askedIn_10 : decode cX5_askedIn 10 = .ok (.getfield 105, 3) := by decide +kernel
theorem dX5_askedIn_13 : decode cX5_askedIn 13 = .ok (.iconst (-1), 1) := by decide +kernel
theorem dX5_askedIn_14 : decode cX5_askedIn 14 = .ok (.ixor, 1) := by decide +kernel
theorem dX5_askedIn_15 : decode cX5_askedIn 15 = .ok (.iand, 1) := by decide +kernel
theorem dX5_askedIn_16 : decode cX5_askedIn 16 = .ok (.ireturn, 1) := by decide +kernel
theorem dX5_goes_0 : decode cX5_goes 0 = .ok (.iconst 0, 1) := by decide +kernel
theorem dX5_goes_1 : decode cX5_goes 1 = .ok (.istore_n 1, 1) := by decide +kernel
theorem dX5_goes_2 : decode cX5_goes 2 = .ok (.iload_n 1, 1) := by decide +kernel
theorem dX5_goes_3 : decode cX5_goes 3 = .ok (.aload_n 0, 1) := by decide +kernel
theorem dX5_goes_4 : decode cX5_goes 4 = .ok (.getfield 13, 3) := by decide +kernel
theorem dX5_goes_7 : decode cX5_goes 7 = .ok (.iconst 0, 1) := by decide +kernel
theorem dX5_goes_8 : decode cX5_goes 8 = .ok (.iaload, 1) := by decide +kernel
theorem dX5_goes_9 : decode cX5_goes 9 = .ok (.if_icmp .ge 16, 3) := by decide +kernel
theorem dX5_goes_12 : decode cX5_goes 12 = .ok (.aload_n 0, 1) := by decide +kernel
theorem dX5_goes_13 : decode cX5_goes 13 = .ok (.getfield 34, 3) := by decide +kernel
theorem dX5_goes_16 : decode cX5_goes 16 = .ok (.iload_n 1, 1) := by decide +kernel
theorem dX5_goes_17 : decode cX5_goes 17 = .ok (.iconst 0, 1) := by decide +kernel
theorem dX5_goes_18 : decode cX5_goes 18 = .ok (.iastore, 1) := by decide +kernel
theorem dX5_goes_19 : decode cX5_goes 19 = .ok (.iinc 1 1, 3) := by decide +kernel
theorem dX5_goes_22 : decode cX5_goes 22 = .ok (.goto (-20), 3) := by decide +kernel
theorem dX5_goes_25 : decode cX5_goes 25 = .ok (.iconst 0, 1) := by decide +kernel
theorem dX5_goes_26 : decode cX5_goes 26 = .ok (.istore_n 1, 1) := by decide +kernel
theorem dX5_goes_27 : decode cX5_goes 27 = .ok (.iload_n 1, 1) := by decide +kernel
theorem dX5_goes_28 : decode cX5_goes 28 = .ok (.iconst 1, 1) := by decide +kernel
theorem dX5_goes_29 : decode cX5_goes 29 = .ok (.iadd, 1) := by decide +kernel
theorem dX5_goes_30 : decode cX5_goes 30 = .ok (.aload_n 0, 1) := by decide +kernel
theorem dX5_goes_31 : decode cX5_goes 31 = .ok (.getfield 13, 3) := by decide +kernel
theorem dX5_goes_34 : decode cX5_goes 34 = .ok (.iconst 0, 1) := by decide +kernel
theorem dX5_goes_35 : decode cX5_goes 35 = .ok (.iaload, 1) := by decide +kernel
theorem dX5_goes_36 : decode cX5_goes 36 = .ok (.if_icmp .ge 68, 3) := by decide +kernel
theorem dX5_goes_39 : decode cX5_goes 39 = .ok (.aload_n 0, 1) := by decide +kernel
theorem dX5_goes_40 : decode cX5_goes 40 = .ok (.getfield 102, 3) := by decide +kernel
theorem dX5_goes_43 : decode cX5_goes 43 = .ok (.iload_n 1, 1) := by decide +kernel
theorem dX5_goes_44 : decode cX5_goes 44 = .ok (.ishr, 1) := by decide +kernel
theorem dX5_goes_45 : decode cX5_goes 45 = .ok (.iconst 1, 1) := by decide +kernel
theorem dX5_goes_46 : decode cX5_goes 46 = .ok (.iand, 1) := by decide +kernel
theorem dX5_goes_47 : decode cX5_goes 47 = .ok (.ifCond .ne 51, 3) := by decide +kernel
theorem dX5_goes_50 : decode cX5_goes 50 = .ok (.aload_n 0, 1) := by decide +kernel
theorem dX5_goes_51 : decode cX5_goes 51 = .ok (.getfield 34, 3) := by decide +kernel
theorem dX5_goes_54 : decode cX5_goes 54 = .ok (.aload_n 0, 1) := by decide +kernel
theorem dX5_goes_55 : decode cX5_goes 55 = .ok (.getfield 31, 3) := by decide +kernel
theorem dX5_goes_58 : decode cX5_goes 58 = .ok (.iload_n 1, 1) := by decide +kernel
theorem dX5_goes_59 : decode cX5_goes 59 = .ok (.iaload, 1) := by decide +kernel
theorem dX5_goes_60 : decode cX5_goes 60 = .ok (.dup2, 1) := by decide +kernel
theorem dX5_goes_61 : decode cX5_goes 61 = .ok (.iaload, 1) := by decide +kernel
theorem dX5_goes_62 : decode cX5_goes 62 = .ok (.iconst 1, 1) := by decide +kernel
theorem dX5_goes_63 : decode cX5_goes 63 = .ok (.aload_n 0, 1) := by decide +kernel
theorem dX5_goes_64 : decode cX5_goes 64 = .ok (.getfield 31, 3) := by decide +kernel
theorem dX5_goes_67 : decode cX5_goes 67 = .ok (.iload_n 1, 1) := by decide +kernel
theorem dX5_goes_68 : decode cX5_goes 68 = .ok (.iconst 1, 1) := by decide +kernel
theorem dX5_goes_69 : decode cX5_goes 69 = .ok (.iadd, 1) := by decide +kernel
theorem dX5_goes_70 : decode cX5_goes 70 = .ok (.iaload, 1) := by decide +kernel
theorem dX5_goes_71 : decode cX5_goes 71 = .ok (.ishl, 1) := by decide +kernel
theorem dX5_goes_72 : decode cX5_goes 72 = .ok (.ior, 1) := by decide +kernel
theorem dX5_goes_73 : decode cX5_goes 73 = .ok (.iastore, 1) := by decide +kernel
theorem dX5_goes_74 : decode cX5_goes 74 = .ok (.aload_n 0, 1) := by decide +kernel
theorem dX5_goes_75 : decode cX5_goes 75 = .ok (.getfield 34, 3) := by decide +kernel
theorem dX5_goes_78 : decode cX5_goes 78 = .ok (.aload_n 0, 1) := by decide +kernel
theorem dX5_goes_79 : decode cX5_goes 79 = .ok (.getfield 31, 3) := by decide +kernel
theorem dX5_goes_82 : decode cX5_goes 82 = .ok (.iload_n 1, 1) := by decide +kernel
theorem dX5_goes_83 : decode cX5_goes 83 = .ok (.iconst 1, 1) := by decide +kernel
theorem dX5_goes_84 : decode cX5_goes 84 = .ok (.iadd, 1) := by decide +kernel
theorem dX5_goes_85 : decode cX5_goes 85 = .ok (.iaload, 1) := by decide +kernel
theorem dX5_goes_86 : decode cX5_goes 86 = .ok (.dup2, 1) := by decide +kernel
theorem dX5_goes_87 : decode cX5_goes 87 = .ok (.iaload, 1) := by decide +kernel
theorem dX5_goes_88 : decode cX5_goes 88 = .ok (.iconst 1, 1) := by decide +kernel
theorem dX5_goes_89 : decode cX5_goes 89 = .ok (.aload_n 0, 1) := by decide +kernel
theorem dX5_goes_90 : decode cX5_goes 90 = .ok (.getfield 31, 3) := by decide +kernel
theorem dX5_goes_93 : decode cX5_goes 93 = .ok (.iload_n 1, 1) := by decide +kernel
theorem dX5_goes_94 : decode cX5_goes 94 = .ok (.iaload, 1) := by decide +kernel
theorem dX5_goes_95 : decode cX5_goes 95 = .ok (.ishl, 1) := by decide +kernel
theorem dX5_goes_96 : decode cX5_goes 96 = .ok (.ior, 1) := by decide +kernel
theorem dX5_goes_97 : decode cX5_goes 97 = .ok (.iastore, 1) := by decide +kernel
theorem dX5_goes_98 : decode cX5_goes 98 = .ok (.iinc 1 1, 3) := by decide +kernel
theorem dX5_goes_101 : decode cX5_goes 101 = .ok (.goto (-74), 3) := by decide +kernel
theorem dX5_goes_104 : decode cX5_goes 104 = .ok (.iconst 0, 1) := by decide +kernel
theorem dX5_goes_105 : decode cX5_goes 105 = .ok (.istore_n 1, 1) := by decide +kernel
theorem dX5_goes_106 : decode cX5_goes 106 = .ok (.iconst 0, 1) := by decide +kernel
theorem dX5_goes_107 : decode cX5_goes 107 = .ok (.istore_n 2, 1) := by decide +kernel
theorem dX5_goes_108 : decode cX5_goes 108 = .ok (.aload_n 0, 1) := by decide +kernel
theorem dX5_goes_109 : decode cX5_goes 109 = .ok (.iconst 0, 1) := by decide +kernel
theorem dX5_goes_110 : decode cX5_goes 110 = .ok (.putfield 108, 3) := by decide +kernel
theorem dX5_goes_113 : decode cX5_goes 113 = .ok (.iconst 0, 1) := by decide +kernel
theorem dX5_goes_114 : decode cX5_goes 114 = .ok (.istore_n 3, 1) := by decide +kernel
theorem dX5_goes_115 : decode cX5_goes 115 = .ok (.iload_n 3, 1) := by decide +kernel
theorem dX5_goes_116 : decode cX5_goes 116 = .ok (.aload_n 0, 1) := by decide +kernel
theorem dX5_goes_117 : decode cX5_goes 117 = .ok (.getfield 13, 3) := by decide +kernel
theorem dX5_goes_120 : decode cX5_goes 120 = .ok (.iconst 1, 1) := by decide +kernel
theorem dX5_goes_121 : decode cX5_goes 121 = .ok (.iaload, 1) := by decide +kernel
theorem dX5_goes_122 : decode cX5_goes 122 = .ok (.if_icmp .ge 113, 3) := by decide +kernel
theorem dX5_goes_125 : decode cX5_goes 125 = .ok (.iconst 0, 1) := by decide +kernel
theorem dX5_goes_126 : decode cX5_goes 126 = .ok (.istore 4, 2) := by decide +kernel
theorem dX5_goes_128 : decode cX5_goes 128 = .ok (.iconst 0, 1) := by decide +kernel
theorem dX5_goes_129 : decode cX5_goes 129 = .ok (.istore 5, 2) := by decide +kernel
theorem dX5_goes_131 : decode cX5_goes 131 = .ok (.iload 5, 2) := by decide +kernel
theorem dX5_goes_133 : decode cX5_goes 133 = .ok (.aload_n 0, 1) := by decide +kernel
theorem dX5_goes_134 : decode cX5_goes 134 = .ok (.getfield 13, 3) := by decide +kernel
theorem dX5_goes_137 : decode cX5_goes 137 = .ok (.iconst 0, 1) := by decide +kernel
theorem dX5_goes_138 : decode cX5_goes 138 = .ok (.iaload, 1) := by decide +kernel
theorem dX5_goes_139 : decode cX5_goes 139 = .ok (.if_icmp .ge 47, 3) := by decide +kernel
theorem dX5_goes_142 : decode cX5_goes 142 = .ok (.iload 4, 2) := by decide +kernel
theorem dX5_goes_144 : decode cX5_goes 144 = .ok (.aload_n 0, 1) := by decide +kernel
theorem dX5_goes_145 : decode cX5_goes 145 = .ok (.iload_n 3, 1) := by decide +kernel
theorem dX5_goes_146 : decode cX5_goes 146 = .ok (.invokevirtual 111, 3) := by decide +kernel
theorem dX5_goes_149 : decode cX5_goes 149 = .ok (.iload 5, 2) := by decide +kernel
theorem dX5_goes_151 : decode cX5_goes 151 = .ok (.ishr, 1) := by decide +kernel
theorem dX5_goes_152 : decode cX5_goes 152 = .ok (.iconst 1, 1) := by decide +kernel
theorem dX5_goes_153 : decode cX5_goes 153 = .ok (.iand, 1) := by decide +kernel
theorem dX5_goes_154 : decode cX5_goes 154 = .ok (.iconst 1, 1) := by decide +kernel
theorem dX5_goes_155 : decode cX5_goes 155 = .ok (.if_icmp .ne 21, 3) := by decide +kernel
theorem dX5_goes_158 : decode cX5_goes 158 = .ok (.aload_n 0, 1) := by decide +kernel
theorem dX5_goes_159 : decode cX5_goes 159 = .ok (.iload 5, 2) := by decide +kernel
theorem dX5_goes_161 : decode cX5_goes 161 = .ok (.iload_n 3, 1) := by decide +kernel
theorem dX5_goes_162 : decode cX5_goes 162 = .ok (.iload_n 2, 1) := by decide +kernel
theorem dX5_goes_163 : decode cX5_goes 163 = .ok (.invokevirtual 114, 3) := by decide +kernel
theorem dX5_goes_166 : decode cX5_goes 166 = .ok (.ifCond .eq 10, 3) := by decide +kernel
theorem dX5_goes_169 : decode cX5_goes 169 = .ok (.iconst 1, 1) := by decide +kernel
theorem dX5_goes_170 : decode cX5_goes 170 = .ok (.iload 5, 2) := by decide +kernel
theorem dX5_goes_172 : decode cX5_goes 172 = .ok (.ishl, 1) := by decide +kernel
theorem dX5_goes_173 : decode cX5_goes 173 = .ok (.goto 4, 3) := by decide +kernel
theorem dX5_goes_176 : decode cX5_goes 176 = .ok (.iconst 0, 1) := by decide +kernel
theorem dX5_goes_177 : decode cX5_goes 177 = .ok (.ior, 1) := by decide +kernel
theorem dX5_goes_178 : decode cX5_goes 178 = .ok (.istore 4, 2) := by decide +kernel
theorem dX5_goes_180 : decode cX5_goes 180 = .ok (.iinc 5 1, 3) := by decide +kernel
theorem dX5_goes_183 : decode cX5_goes 183 = .ok (.goto (-52), 3) := by decide +kernel
theorem dX5_goes_186 : decode cX5_goes 186 = .ok (.iload_n 1, 1) := by decide +kernel
theorem dX5_goes_187 : decode cX5_goes 187 = .ok (.iload 4, 2) := by decide +kernel
theorem dX5_goes_189 : decode cX5_goes 189 = .ok (.aload_n 0, 1) := by decide +kernel
theorem dX5_goes_190 : decode cX5_goes 190 = .ok (.iload_n 3, 1) := by decide +kernel
theorem dX5_goes_191 : decode cX5_goes 191 = .ok (.invokevirtual 111, 3) := by decide +kernel
theorem dX5_goes_194 : decode cX5_goes 194 = .ok (.if_icmp .ne 7, 3) := by decide +kernel
theorem dX5_goes_197 : decode cX5_goes 197 = .ok (.iconst 1, 1) := by decide +kernel
theorem dX5_goes_198 : decode cX5_goes 198 = .ok (.goto 4, 3) := by decide +kernel
theorem dX5_goes_201 : decode cX5_goes 201 = .ok (.iconst 0, 1) := by decide +kernel
theorem dX5_goes_202 : decode cX5_goes 202 = .ok (.iadd, 1) := by decide +kernel
theorem dX5_goes_203 : decode cX5_goes 203 = .ok (.istore_n 1, 1) := by decide +kernel
theorem dX5_goes_204 : decode cX5_goes 204 = .ok (.aload_n 0, 1) := by decide +kernel
theorem dX5_goes_205 : decode cX5_goes 205 = .ok (.dup, 1) := by decide +kernel
theorem dX5_goes_206 : decode cX5_goes 206 = .ok (.getfield 108, 3) := by decide +kernel
theorem dX5_goes_209 : decode cX5_goes 209 = .ok (.iload 4, 2) := by decide +kernel
theorem dX5_goes_211 : decode cX5_goes 211 = .ok (.invokestatic 117, 3) := by decide +kernel
theorem dX5_goes_214 : decode cX5_goes 214 = .ok (.iadd, 1) := by decide +kernel
theorem dX5_goes_215 : decode cX5_goes 215 = .ok (.putfield 108, 3) := by decide +kernel
theorem dX5_goes_218 : decode cX5_goes 218 = .ok (.aload_n 0, 1) := by decide +kernel
theorem dX5_goes_219 : decode cX5_goes 219 = .ok (.getfield 40, 3) := by decide +kernel
theorem dX5_goes_222 : decode cX5_goes 222 = .ok (.iload_n 3, 1) := by decide +kernel
theorem dX5_goes_223 : decode cX5_goes 223 = .ok (.iload 4, 2) := by decide +kernel
theorem dX5_goes_225 : decode cX5_goes 225 = .ok (.iastore, 1) := by decide +kernel
theorem dX5_goes_226 : decode cX5_goes 226 = .ok (.iload 4, 2) := by decide +kernel
theorem dX5_goes_228 : decode cX5_goes 228 = .ok (.istore_n 2, 1) := by decide +kernel
theorem dX5_goes_229 : decode cX5_goes 229 = .ok (.iinc 3 1, 3) := by decide +kernel
theorem dX5_goes_232 : decode cX5_goes 232 = .ok (.goto (-117), 3) := by decide +kernel
theorem dX5_goes_235 : decode cX5_goes 235 = .ok (.iload_n 1, 1) := by decide +kernel
theorem dX5_goes_236 : decode cX5_goes 236 = .ok (.ireturn, 1) := by decide +kernel
theorem dX5_seatOf_0 : decode cX5_seatOf 0 = .ok (.iconst 0, 1) := by decide +kernel
theorem dX5_seatOf_1 : decode cX5_seatOf 1 = .ok (.istore_n 2, 1) := by decide +kernel
theorem dX5_seatOf_2 : decode cX5_seatOf 2 = .ok (.iconst 0, 1) := by decide +kernel
theorem dX5_seatOf_3 : decode cX5_seatOf 3 = .ok (.istore_n 3, 1) := by decide +kernel
theorem dX5_seatOf_4 : decode cX5_seatOf 4 = .ok (.iload_n 3, 1) := by decide +kernel
theorem dX5_seatOf_5 : decode cX5_seatOf 5 = .ok (.aload_n 0, 1) := by decide +kernel
theorem dX5_seatOf_6 : decode cX5_seatOf 6 = .ok (.getfield 13, 3) := by decide +kernel
theorem dX5_seatOf_9 : decode cX5_seatOf 9 = .ok (.iconst 0, 1) := by decide +kernel
theorem dX5_seatOf_10 : decode cX5_seatOf 10 = .ok (.iaload, 1) := by decide +kernel
theorem dX5_seatOf_11 : decode cX5_seatOf 11 = .ok (.if_icmp .ge 25, 3) := by decide +kernel
theorem dX5_seatOf_14 : decode cX5_seatOf 14 = .ok (.aload_n 0, 1) := by decide +kernel
theorem dX5_seatOf_15 : decode cX5_seatOf 15 = .ok (.getfield 19, 3) := by decide +kernel
theorem dX5_seatOf_18 : decode cX5_seatOf 18 = .ok (.iload_n 3, 1) := by decide +kernel
theorem dX5_seatOf_19 : decode cX5_seatOf 19 = .ok (.iaload, 1) := by decide +kernel
theorem dX5_seatOf_20 : decode cX5_seatOf 20 = .ok (.iload_n 1, 1) := by decide +kernel
theorem dX5_seatOf_21 : decode cX5_seatOf 21 = .ok (.if_icmp .ne 7, 3) := by decide +kernel
theorem dX5_seatOf_24 : decode cX5_seatOf 24 = .ok (.iload_n 3, 1) := by decide +kernel
theorem dX5_seatOf_25 : decode cX5_seatOf 25 = .ok (.goto 4, 3) := by decide +kernel
theorem dX5_seatOf_28 : decode cX5_seatOf 28 = .ok (.iload_n 2, 1) := by decide +kernel
theorem dX5_seatOf_29 : decode cX5_seatOf 29 = .ok (.istore_n 2, 1) := by decide +kernel
theorem dX5_seatOf_30 : decode cX5_seatOf 30 = .ok (.iinc 3 1, 3) := by decide +kernel
theorem dX5_seatOf_33 : decode cX5_seatOf 33 = .ok (.goto (-29), 3) := by decide +kernel
theorem dX5_seatOf_36 : decode cX5_seatOf 36 = .ok (.iload_n 2, 1) := by decide +kernel
theorem dX5_seatOf_37 : decode cX5_seatOf 37 = .ok (.ireturn, 1) := by decide +kernel
theorem dX5_instrument_0 : decode cX5_instrument 0 = .ok (.aload_n 0, 1) := by decide +kernel
theorem dX5_instrument_1 : decode cX5_instrument 1 = .ok (.iload_n 1, 1) := by decide +kernel
theorem dX5_instrument_2 : decode cX5_instrument 2 = .ok (.invokevirtual 120, 3) := by decide +kernel
theorem dX5_instrument_5 : decode cX5_instrument 5 = .ok (.ifCond .ne 5, 3) := by decide +kernel
theorem dX5_instrument_8 : decode cX5_instrument 8 = .ok (.iconst (-1), 1) := by decide +kernel
theorem dX5_instrument_9 : decode cX5_instrument 9 = .ok (.ireturn, 1) := by decide +kernel
theorem dX5_instrument_10 : decode cX5_instrument 10 = .ok (.aload_n 0, 1) := by decide +kernel
theorem dX5_instrument_11 : decode cX5_instrument 11 = .ok (.invokevirtual 123, 3) := by decide +kernel
theorem dX5_instrument_14 : decode cX5_instrument 14 = .ok (.aload_n 0, 1) := by decide +kernel
theorem dX5_instrument_15 : decode cX5_instrument 15 = .ok (.invokevirtual 126, 3) := by decide +kernel
theorem dX5_instrument_18 : decode cX5_instrument 18 = .ok (.pop, 1) := by decide +kernel
theorem dX5_instrument_19 : decode cX5_instrument 19 = .ok (.iload_n 2, 1) := by decide +kernel
theorem dX5_instrument_20 : decode cX5_instrument 20 = .ok (.tableswitch 94 0 5 #[40, 49, 59, 69, 75, 87], 40) := by decide +kernel
theorem dX5_instrument_60 : decode cX5_instrument 60 = .ok (.aload_n 0, 1) := by decide +kernel
theorem dX5_instrument_61 : decode cX5_instrument 61 = .ok (.getfield 13, 3) := by decide +kernel
theorem dX5_instrument_64 : decode cX5_instrument 64 = .ok (.iconst 4, 1) := by decide +kernel
theorem dX5_instrument_65 : decode cX5_instrument 65 = .ok (.iload_n 1, 1) := by decide +kernel
theorem dX5_instrument_66 : decode cX5_instrument 66 = .ok (.iadd, 1) := by decide +kernel
theorem dX5_instrument_67 : decode cX5_instrument 67 = .ok (.iaload, 1) := by decide +kernel
theorem dX5_instrument_68 : decode cX5_instrument 68 = .ok (.ireturn, 1) := by decide +kernel
theorem dX5_instrument_69 : decode cX5_instrument 69 = .ok (.aload_n 0, 1) := by decide +kernel
theorem dX5_instrument_70 : decode cX5_instrument 70 = .ok (.getfield 13, 3) := by decide +kernel
theorem dX5_instrument_73 : decode cX5_instrument 73 = .ok (.bipush 11, 2) := by decide +kernel
theorem dX5_instrument_75 : decode cX5_instrument 75 = .ok (.iload_n 1, 1) := by decide +kernel
theorem dX5_instrument_76 : decode cX5_instrument 76 = .ok (.iadd, 1) := by decide +kernel
theorem dX5_instrument_77 : decode cX5_instrument 77 = .ok (.iaload, 1) := by decide +kernel
theorem dX5_instrument_78 : decode cX5_instrument 78 = .ok (.ireturn, 1) := by decide +kernel
theorem dX5_instrument_79 : decode cX5_instrument 79 = .ok (.aload_n 0, 1) := by decide +kernel
theorem dX5_instrument_80 : decode cX5_instrument 80 = .ok (.getfield 13, 3) := by decide +kernel
theorem dX5_instrument_83 : decode cX5_instrument 83 = .ok (.bipush 18, 2) := by decide +kernel
theorem dX5_instrument_85 : decode cX5_instrument 85 = .ok (.iload_n 1, 1) := by decide +kernel
theorem dX5_instrument_86 : decode cX5_instrument 86 = .ok (.iadd, 1) := by decide +kernel
theorem dX5_instrument_87 : decode cX5_instrument 87 = .ok (.iaload, 1) := by decide +kernel
theorem dX5_instrument_88 : decode cX5_instrument 88 = .ok (.ireturn, 1) := by decide +kernel
theorem dX5_instrument_89 : decode cX5_instrument 89 = .ok (.aload_n 0, 1) := by decide +kernel
theorem dX5_instrument_90 : decode cX5_instrument 90 = .ok (.iload_n 1, 1) := by decide +kernel
theorem dX5_instrument_91 : decode cX5_instrument 91 = .ok (.invokevirtual 129, 3) := by decide +kernel
theorem dX5_instrument_94 : decode cX5_instrument 94 = .ok (.ireturn, 1) := by decide +kernel
theorem dX5_instrument_95 : decode cX5_instrument 95 = .ok (.aload_n 0, 1) := by decide +kernel
theorem dX5_instrument_96 : decode cX5_instrument 96 = .ok (.getfield 19, 3) := by decide +kernel
theorem dX5_instrument_99 : decode cX5_instrument 99 = .ok (.bipush 7, 2) := by decide +kernel
theorem dX5_instrument_101 : decode cX5_instrument 101 = .ok (.iaload, 1) := by decide +kernel
theorem dX5_instrument_102 : decode cX5_instrument 102 = .ok (.iload_n 1, 1) := by decide +kernel
theorem dX5_instrument_103 : decode cX5_instrument 103 = .ok (.ishr, 1) := by decide +kernel
theorem dX5_instrument_104 : decode cX5_instrument 104 = .ok (.iconst 1, 1) := by decide +kernel
theorem dX5_instrument_105 : decode cX5_instrument 105 = .ok (.iand, 1) := by decide +kernel
theorem dX5_instrument_106 : decode cX5_instrument 106 = .ok (.ireturn, 1) := by decide +kernel
theorem dX5_instrument_107 : decode cX5_instrument 107 = .ok (.aload_n 0, 1) := by decide +kernel
theorem dX5_instrument_108 : decode cX5_instrument 108 = .ok (.getfield 34, 3) := by decide +kernel
theorem dX5_instrument_111 : decode cX5_instrument 111 = .ok (.iload_n 1, 1) := by decide +kernel
theorem dX5_instrument_112 : decode cX5_instrument 112 = .ok (.iaload, 1) := by decide +kernel
theorem dX5_instrument_113 : decode cX5_instrument 113 = .ok (.ireturn, 1) := by decide +kernel
theorem dX5_instrument_114 : decode cX5_instrument 114 = .ok (.iconst (-1), 1) := by decide +kernel
theorem dX5_instrument_115 : decode cX5_instrument 115 = .ok (.ireturn, 1) := by decide +kernel
theorem dX5_seat_0 : decode cX5_seat 0 = .ok (.aload_n 0, 1) := by decide +kernel
theorem dX5_seat_1 : decode cX5_seat 1 = .ok (.iload_n 1, 1) := by decide +kernel
theorem dX5_seat_2 : decode cX5_seat 2 = .ok (.invokevirtual 120, 3) := by decide +kernel
theorem dX5_seat_5 : decode cX5_seat 5 = .ok (.ifCond .eq 12, 3) := by decide +kernel
theorem dX5_seat_8 : decode cX5_seat 8 = .ok (.aload_n 0, 1) := by decide +kernel
theorem dX5_seat_9 : decode cX5_seat 9 = .ok (.getfield 19, 3) := by decide +kernel
theorem dX5_seat_12 : decode cX5_seat 12 = .ok (.iload_n 1, 1) := by decide +kernel
theorem dX5_seat_13 : decode cX5_seat 13 = .ok (.iaload, 1) := by decide +kernel
theorem dX5_seat_14 : decode cX5_seat 14 = .ok (.goto 4, 3) := by decide +kernel
theorem dX5_seat_17 : decode cX5_seat 17 = .ok (.iconst (-1), 1) := by decide +kernel
theorem dX5_seat_18 : decode cX5_seat 18 = .ok (.ireturn, 1) := by decide +kernel
theorem dX5_asked_0 : decode cX5_asked 0 = .ok (.aload_n 0, 1) := by decide +kernel
theorem dX5_asked_1 : decode cX5_asked 1 = .ok (.iload_n 1, 1) := by decide +kernel
theorem dX5_asked_2 : decode cX5_asked 2 = .ok (.invokevirtual 132, 3) := by decide +kernel
theorem dX5_asked_5 : decode cX5_asked 5 = .ok (.ifCond .eq 15, 3) := by decide +kernel
theorem dX5_asked_8 : decode cX5_asked 8 = .ok (.aload_n 0, 1) := by decide +kernel
theorem dX5_asked_9 : decode cX5_asked 9 = .ok (.getfield 13, 3) := by decide +kernel
theorem dX5_asked_12 : decode cX5_asked 12 = .ok (.bipush 25, 2) := by decide +kernel
theorem dX5_asked_14 : decode cX5_asked 14 = .ok (.iload_n 1, 1) := by decide +kernel
theorem dX5_asked_15 : decode cX5_asked 15 = .ok (.iadd, 1) := by decide +kernel
theorem dX5_asked_16 : decode cX5_asked 16 = .ok (.iaload, 1) := by decide +kernel
theorem dX5_asked_17 : decode cX5_asked 17 = .ok (.goto 4, 3) := by decide +kernel
theorem dX5_asked_20 : decode cX5_asked 20 = .ok (.iconst (-1), 1) := by decide +kernel
theorem dX5_asked_21 : decode cX5_asked 21 = .ok (.ireturn, 1) := by decide +kernel
theorem dX5_plays_0 : decode cX5_plays 0 = .ok (.aload_n 0, 1) := by decide +kernel
theorem dX5_plays_1 : decode cX5_plays 1 = .ok (.iload_n 1, 1) := by decide +kernel
theorem dX5_plays_2 : decode cX5_plays 2 = .ok (.invokevirtual 132, 3) := by decide +kernel
theorem dX5_plays_5 : decode cX5_plays 5 = .ok (.ifCond .ne 5, 3) := by decide +kernel
theorem dX5_plays_8 : decode cX5_plays 8 = .ok (.iconst (-1), 1) := by decide +kernel
theorem dX5_plays_9 : decode cX5_plays 9 = .ok (.ireturn, 1) := by decide +kernel
theorem dX5_plays_10 : decode cX5_plays 10 = .ok (.aload_n 0, 1) := by decide +kernel
theorem dX5_plays_11 : decode cX5_plays 11 = .ok (.invokevirtual 123, 3) := by decide +kernel
theorem dX5_plays_14 : decode cX5_plays 14 = .ok (.aload_n 0, 1) := by decide +kernel
theorem dX5_plays_15 : decode cX5_plays 15 = .ok (.invokevirtual 126, 3) := by decide +kernel
theorem dX5_plays_18 : decode cX5_plays 18 = .ok (.pop, 1) := by decide +kernel
theorem dX5_plays_19 : decode cX5_plays 19 = .ok (.aload_n 0, 1) := by decide +kernel
theorem dX5_plays_20 : decode cX5_plays 20 = .ok (.getfield 40, 3) := by decide +kernel
theorem dX5_plays_23 : decode cX5_plays 23 = .ok (.iload_n 1, 1) := by decide +kernel
theorem dX5_plays_24 : decode cX5_plays 24 = .ok (.iaload, 1) := by decide +kernel
theorem dX5_plays_25 : decode cX5_plays 25 = .ok (.ireturn, 1) := by decide +kernel
theorem dX5_missing_0 : decode cX5_missing 0 = .ok (.aload_n 0, 1) := by decide +kernel
theorem dX5_missing_1 : decode cX5_missing 1 = .ok (.iload_n 1, 1) := by decide +kernel
theorem dX5_missing_2 : decode cX5_missing 2 = .ok (.invokevirtual 132, 3) := by decide +kernel
theorem dX5_missing_5 : decode cX5_missing 5 = .ok (.ifCond .eq 23, 3) := by decide +kernel
theorem dX5_missing_8 : decode cX5_missing 8 = .ok (.aload_n 0, 1) := by decide +kernel
theorem dX5_missing_9 : decode cX5_missing 9 = .ok (.getfield 13, 3) := by decide +kernel
theorem dX5_missing_12 : decode cX5_missing 12 = .ok (.bipush 25, 2) := by decide +kernel
theorem dX5_missing_14 : decode cX5_missing 14 = .ok (.iload_n 1, 1) := by decide +kernel
theorem dX5_missing_15 : decode cX5_missing 15 = .ok (.iadd, 1) := by decide +kernel
theorem dX5_missing_16 : decode cX5_missing 16 = .ok (.iaload, 1) := by decide +kernel
theorem dX5_missing_17 : decode cX5_missing 17 = .ok (.aload_n 0, 1) := by decide +kernel
theorem dX5_missing_18 : decode cX5_missing 18 = .ok (.iload_n 1, 1) := by decide +kernel
theorem dX5_missing_19 : decode cX5_missing 19 = .ok (.invokevirtual 135, 3) := by decide +kernel
theorem dX5_missing_22 : decode cX5_missing 22 = .ok (.iconst (-1), 1) := by decide +kernel
theorem dX5_missing_23 : decode cX5_missing 23 = .ok (.ixor, 1) := by decide +kernel
theorem dX5_missing_24 : decode cX5_missing 24 = .ok (.iand, 1) := by decide +kernel
theorem dX5_missing_25 : decode cX5_missing 25 = .ok (.goto 4, 3) := by decide +kernel
theorem dX5_missing_28 : decode cX5_missing 28 = .ok (.iconst (-1), 1) := by decide +kernel
theorem dX5_missing_29 : decode cX5_missing 29 = .ok (.ireturn, 1) := by decide +kernel
theorem dX5_first_0 : decode cX5_first 0 = .ok (.aload_n 0, 1) := by decide +kernel
theorem dX5_first_1 : decode cX5_first 1 = .ok (.invokevirtual 123, 3) := by decide +kernel
theorem dX5_first_4 : decode cX5_first 4 = .ok (.aload_n 0, 1) := by decide +kernel
theorem dX5_first_5 : decode cX5_first 5 = .ok (.invokevirtual 126, 3) := by decide +kernel
theorem dX5_first_8 : decode cX5_first 8 = .ok (.pop, 1) := by decide +kernel
theorem dX5_first_9 : decode cX5_first 9 = .ok (.bipush (-4), 2) := by decide +kernel
theorem dX5_first_11 : decode cX5_first 11 = .ok (.istore_n 1, 1) := by decide +kernel
theorem dX5_first_12 : decode cX5_first 12 = .ok (.aload_n 0, 1) := by decide +kernel
theorem dX5_first_13 : decode cX5_first 13 = .ok (.getfield 13, 3) := by decide +kernel
theorem dX5_first_16 : decode cX5_first 16 = .ok (.iconst 1, 1) := by decide +kernel
theorem dX5_first_17 : decode cX5_first 17 = .ok (.iaload, 1) := by decide +kernel
theorem dX5_first_18 : decode cX5_first 18 = .ok (.iconst 1, 1) := by decide +kernel
theorem dX5_first_19 : decode cX5_first 19 = .ok (.isub, 1) := by decide +kernel
theorem dX5_first_20 : decode cX5_first 20 = .ok (.istore_n 2, 1) := by decide +kernel
theorem dX5_first_21 : decode cX5_first 21 = .ok (.iload_n 2, 1) := by decide +kernel
theorem dX5_first_22 : decode cX5_first 22 = .ok (.ifCond .lt 33, 3) := by decide +kernel
theorem dX5_first_25 : decode cX5_first 25 = .ok (.aload_n 0, 1) := by decide +kernel
theorem dX5_first_26 : decode cX5_first 26 = .ok (.getfield 40, 3) := by decide +kernel
theorem dX5_first_29 : decode cX5_first 29 = .ok (.iload_n 2, 1) := by decide +kernel
theorem dX5_first_30 : decode cX5_first 30 = .ok (.iaload, 1) := by decide +kernel
theorem dX5_first_31 : decode cX5_first 31 = .ok (.aload_n 0, 1) := by decide +kernel
theorem dX5_first_32 : decode cX5_first 32 = .ok (.getfield 13, 3) := by decide +kernel
theorem dX5_first_35 : decode cX5_first 35 = .ok (.bipush 25, 2) := by decide +kernel
theorem dX5_first_37 : decode cX5_first 37 = .ok (.iload_n 2, 1) := by decide +kernel
theorem dX5_first_38 : decode cX5_first 38 = .ok (.iadd, 1) := by decide +kernel
theorem dX5_first_39 : decode cX5_first 39 = .ok (.iaload, 1) := by decide +kernel
theorem dX5_first_40 : decode cX5_first 40 = .ok (.if_icmp .eq 7, 3) := by decide +kernel
theorem dX5_first_43 : decode cX5_first 43 = .ok (.iload_n 2, 1) := by decide +kernel
theorem dX5_first_44 : decode cX5_first 44 = .ok (.goto 4, 3) := by decide +kernel
theorem dX5_first_47 : decode cX5_first 47 = .ok (.iload_n 1, 1) := by decide +kernel
theorem dX5_first_48 : decode cX5_first 48 = .ok (.istore_n 1, 1) := by decide +kernel
theorem dX5_first_49 : decode cX5_first 49 = .ok (.iinc 2 (-1), 3) := by decide +kernel
theorem dX5_first_52 : decode cX5_first 52 = .ok (.goto (-31), 3) := by decide +kernel
theorem dX5_first_55 : decode cX5_first 55 = .ok (.iload_n 1, 1) := by decide +kernel
theorem dX5_first_56 : decode cX5_first 56 = .ok (.ireturn, 1) := by decide +kernel
theorem dX5_notes_0 : decode cX5_notes 0 = .ok (.iload_n 1, 1) := by decide +kernel
theorem dX5_notes_1 : decode cX5_notes 1 = .ok (.iconst 0, 1) := by decide +kernel
theorem dX5_notes_2 : decode cX5_notes 2 = .ok (.iconst 1, 1) := by decide +kernel
theorem dX5_notes_3 : decode cX5_notes 3 = .ok (.invokestatic 60, 3) := by decide +kernel
theorem dX5_notes_6 : decode cX5_notes 6 = .ok (.ifCond .ne 5, 3) := by decide +kernel
theorem dX5_notes_9 : decode cX5_notes 9 = .ok (.iconst (-1), 1) := by decide +kernel
theorem dX5_notes_10 : decode cX5_notes 10 = .ok (.ireturn, 1) := by decide +kernel
theorem dX5_notes_11 : decode cX5_notes 11 = .ok (.aload_n 0, 1) := by decide +kernel
theorem dX5_notes_12 : decode cX5_notes 12 = .ok (.invokevirtual 123, 3) := by decide +kernel
theorem dX5_notes_15 : decode cX5_notes 15 = .ok (.aload_n 0, 1) := by decide +kernel
theorem dX5_notes_16 : decode cX5_notes 16 = .ok (.invokevirtual 126, 3) := by decide +kernel
theorem dX5_notes_19 : decode cX5_notes 19 = .ok (.istore_n 2, 1) := by decide +kernel
theorem dX5_notes_20 : decode cX5_notes 20 = .ok (.iload_n 1, 1) := by decide +kernel
theorem dX5_notes_21 : decode cX5_notes 21 = .ok (.ifCond .ne 10, 3) := by decide +kernel
theorem dX5_notes_24 : decode cX5_notes 24 = .ok (.aload_n 0, 1) := by decide +kernel
theorem dX5_notes_25 : decode cX5_notes 25 = .ok (.getfield 108, 3) := by decide +kernel
theorem dX5_notes_28 : decode cX5_notes 28 = .ok (.goto 4, 3) := by decide +kernel
theorem dX5_notes_31 : decode cX5_notes 31 = .ok (.iload_n 2, 1) := by decide +kernel
theorem dX5_notes_32 : decode cX5_notes 32 = .ok (.ireturn, 1) := by decide +kernel
theorem dX5_keeps_0 : decode cX5_keeps 0 = .ok (.aload_n 0, 1) := by decide +kernel
theorem dX5_keeps_1 : decode cX5_keeps 1 = .ok (.getfield 90, 3) := by decide +kernel
theorem dX5_keeps_4 : decode cX5_keeps 4 = .ok (.bipush 8, 2) := by decide +kernel
theorem dX5_keeps_6 : decode cX5_keeps 6 = .ok (.if_icmp .ne 42, 3) := by decide +kernel
theorem dX5_keeps_9 : decode cX5_keeps 9 = .ok (.iconst 0, 1) := by decide +kernel
theorem dX5_keeps_10 : decode cX5_keeps 10 = .ok (.istore_n 1, 1) := by decide +kernel
theorem dX5_keeps_11 : decode cX5_keeps 11 = .ok (.iload_n 1, 1) := by decide +kernel
theorem dX5_keeps_12 : decode cX5_keeps 12 = .ok (.bipush 56, 2) := by decide +kernel
theorem dX5_keeps_14 : decode cX5_keeps 14 = .ok (.if_icmp .ge 24, 3) := by decide +kernel
theorem dX5_keeps_17 : decode cX5_keeps 17 = .ok (.aload_n 0, 1) := by decide +kernel
theorem dX5_keeps_18 : decode cX5_keeps 18 = .ok (.getfield 22, 3) := by decide +kernel
theorem dX5_keeps_21 : decode cX5_keeps 21 = .ok (.iload_n 1, 1) := by decide +kernel
theorem dX5_keeps_22 : decode cX5_keeps 22 = .ok (.aload_n 0, 1) := by decide +kernel
theorem dX5_keeps_23 : decode cX5_keeps 23 = .ok (.getfield 22, 3) := by decide +kernel
theorem dX5_keeps_26 : decode cX5_keeps 26 = .ok (.iload_n 1, 1) := by decide +kernel
theorem dX5_keeps_27 : decode cX5_keeps 27 = .ok (.bipush 8, 2) := by decide +kernel
theorem dX5_keeps_29 : decode cX5_keeps 29 = .ok (.iadd, 1) := by decide +kernel
theorem dX5_keeps_30 : decode cX5_keeps 30 = .ok (.iaload, 1) := by decide +kernel
theorem dX5_keeps_31 : decode cX5_keeps 31 = .ok (.iastore, 1) := by decide +kernel
theorem dX5_keeps_32 : decode cX5_keeps 32 = .ok (.iinc 1 1, 3) := by decide +kernel
theorem dX5_keeps_35 : decode cX5_keeps 35 = .ok (.goto (-24), 3) := by decide +kernel
theorem dX5_keeps_38 : decode cX5_keeps 38 = .ok (.aload_n 0, 1) := by decide +kernel
theorem dX5_keeps_39 : decode cX5_keeps 39 = .ok (.dup, 1) := by decide +kernel
theorem dX5_keeps_40 : decode cX5_keeps 40 = .ok (.getfield 90, 3) := by decide +kernel
theorem dX5_keeps_43 : decode cX5_keeps 43 = .ok (.iconst 1, 1) := by decide +kernel
theorem dX5_keeps_44 : decode cX5_keeps 44 = .ok (.isub, 1) := by decide +kernel
theorem dX5_keeps_45 : decode cX5_keeps 45 = .ok (.putfield 90, 3) := by decide +kernel
theorem dX5_keeps_48 : decode cX5_keeps 48 = .ok (.iconst 0, 1) := by decide +kernel
theorem dX5_keeps_49 : decode cX5_keeps 49 = .ok (.istore_n 1, 1) := by decide +kernel
theorem dX5_keeps_50 : decode cX5_keeps 50 = .ok (.iload_n 1, 1) := by decide +kernel
theorem dX5_keeps_51 : decode cX5_keeps 51 = .ok (.bipush 8, 2) := by decide +kernel
theorem dX5_keeps_53 : decode cX5_keeps 53 = .ok (.if_icmp .ge 29, 3) := by decide +kernel
theorem dX5_keeps_56 : decode cX5_keeps 56 = .ok (.aload_n 0, 1) := by decide +kernel
theorem dX5_keeps_57 : decode cX5_keeps 57 = .ok (.getfield 22, 3) := by decide +kernel
theorem dX5_keeps_60 : decode cX5_keeps 60 = .ok (.bipush 8, 2) := by decide +kernel
theorem dX5_keeps_62 : decode cX5_keeps 62 = .ok (.aload_n 0, 1) := by decide +kernel
theorem dX5_keeps_63 : decode cX5_keeps 63 = .ok (.getfield 90, 3) := by decide +kernel
theorem dX5_keeps_66 : decode cX5_keeps 66 = .ok (.imul, 1) := by decide +kernel
theorem dX5_keeps_67 : decode cX5_keeps 67 = .ok (.iload_n 1, 1) := by decide +kernel
theorem dX5_keeps_68 : decode cX5_keeps 68 = .ok (.iadd, 1) := by decide +kernel
theorem dX5_keeps_69 : decode cX5_keeps 69 = .ok (.aload_n 0, 1) := by decide +kernel
theorem dX5_keeps_70 : decode cX5_keeps 70 = .ok (.getfield 19, 3) := by decide +kernel
theorem dX5_keeps_73 : decode cX5_keeps 73 = .ok (.iload_n 1, 1) := by decide +kernel
theorem dX5_keeps_74 : decode cX5_keeps 74 = .ok (.iaload, 1) := by decide +kernel
theorem dX5_keeps_75 : decode cX5_keeps 75 = .ok (.iastore, 1) := by decide +kernel
theorem dX5_keeps_76 : decode cX5_keeps 76 = .ok (.iinc 1 1, 3) := by decide +kernel
theorem dX5_keeps_79 : decode cX5_keeps 79 = .ok (.goto (-29), 3) := by decide +kernel
theorem dX5_keeps_82 : decode cX5_keeps 82 = .ok (.aload_n 0, 1) := by decide +kernel
theorem dX5_keeps_83 : decode cX5_keeps 83 = .ok (.dup, 1) := by decide +kernel
theorem dX5_keeps_84 : decode cX5_keeps 84 = .ok (.getfield 90, 3) := by decide +kernel
theorem dX5_keeps_87 : decode cX5_keeps 87 = .ok (.iconst 1, 1) := by decide +kernel
theorem dX5_keeps_88 : decode cX5_keeps 88 = .ok (.iadd, 1) := by decide +kernel
theorem dX5_keeps_89 : decode cX5_keeps 89 = .ok (.putfield 90, 3) := by decide +kernel
theorem dX5_keeps_92 : decode cX5_keeps 92 = .ok (.return_, 1) := by decide +kernel
theorem dX5_change_0 : decode cX5_change 0 = .ok (.aload_n 0, 1) := by decide +kernel
theorem dX5_change_1 : decode cX5_change 1 = .ok (.iload_n 1, 1) := by decide +kernel
theorem dX5_change_2 : decode cX5_change 2 = .ok (.invokevirtual 120, 3) := by decide +kernel
theorem dX5_change_5 : decode cX5_change 5 = .ok (.ifCond .eq 16, 3) := by decide +kernel
theorem dX5_change_8 : decode cX5_change 8 = .ok (.aload_n 0, 1) := by decide +kernel
theorem dX5_change_9 : decode cX5_change 9 = .ok (.iload_n 2, 1) := by decide +kernel
theorem dX5_change_10 : decode cX5_change 10 = .ok (.invokevirtual 120, 3) := by decide +kernel
theorem dX5_change_13 : decode cX5_change 13 = .ok (.ifCond .eq 8, 3) := by decide +kernel
theorem dX5_change_16 : decode cX5_change 16 = .ok (.iload_n 1, 1) := by decide +kernel
theorem dX5_change_17 : decode cX5_change 17 = .ok (.iload_n 2, 1) := by decide +kernel
theorem dX5_change_18 : decode cX5_change 18 = .ok (.if_icmp .ne 5, 3) := by decide +kernel
theorem dX5_change_21 : decode cX5_change 21 = .ok (.iconst (-1), 1) := by decide +kernel
theorem dX5_change_22 : decode cX5_change 22 = .ok (.ireturn, 1) := by decide +kernel
theorem dX5_change_23 : decode cX5_change 23 = .ok (.aload_n 0, 1) := by decide +kernel
theorem dX5_change_24 : decode cX5_change 24 = .ok (.invokevirtual 138, 3) := by decide +kernel
theorem dX5_change_27 : decode cX5_change 27 = .ok (.aload_n 0, 1) := by decide +kernel
theorem dX5_change_28 : decode cX5_change 28 = .ok (.getfield 19, 3) := by decide +kernel
theorem dX5_change_31 : decode cX5_change 31 = .ok (.iload_n 1, 1) := by decide +kernel
theorem dX5_change_32 : decode cX5_change 32 = .ok (.iaload, 1) := by decide +kernel
theorem dX5_change_33 : decode cX5_change 33 = .ok (.istore_n 3, 1) := by decide +kernel
theorem dX5_change_34 : decode cX5_change 34 = .ok (.aload_n 0, 1) := by decide +kernel
theorem dX5_change_35 : decode cX5_change 35 = .ok (.getfield 19, 3) := by decide +kernel
theorem dX5_change_38 : decode cX5_change 38 = .ok (.iload_n 1, 1) := by decide +kernel
theorem dX5_change_39 : decode cX5_change 39 = .ok (.aload_n 0, 1) := by decide +kernel
theorem dX5_change_40 : decode cX5_change 40 = .ok (.getfield 19, 3) := by decide +kernel
theorem dX5_change_43 : decode cX5_change 43 = .ok (.iload_n 2, 1) := by decide +kernel
theorem dX5_change_44 : decode cX5_change 44 = .ok (.iaload, 1) := by decide +kernel
theorem dX5_change_45 : decode cX5_change 45 = .ok (.iastore, 1) := by decide +kernel
theorem dX5_change_46 : decode cX5_change 46 = .ok (.aload_n 0, 1) := by decide +kernel
theorem dX5_change_47 : decode cX5_change 47 = .ok (.getfield 19, 3) := by decide +kernel
theorem dX5_change_50 : decode cX5_change 50 = .ok (.iload_n 2, 1) := by decide +kernel
theorem dX5_change_51 : decode cX5_change 51 = .ok (.iload_n 3, 1) := by decide +kernel
theorem dX5_change_52 : decode cX5_change 52 = .ok (.iastore, 1) := by decide +kernel
theorem dX5_change_53 : decode cX5_change 53 = .ok (.aload_n 0, 1) := by decide +kernel
theorem dX5_change_54 : decode cX5_change 54 = .ok (.getfield 19, 3) := by decide +kernel
theorem dX5_change_57 : decode cX5_change 57 = .ok (.iload_n 1, 1) := by decide +kernel
theorem dX5_change_58 : decode cX5_change 58 = .ok (.iaload, 1) := by decide +kernel
theorem dX5_change_59 : decode cX5_change 59 = .ok (.ireturn, 1) := by decide +kernel
theorem dX5_costOf_0 : decode cX5_costOf 0 = .ok (.iconst 0, 1) := by decide +kernel
theorem dX5_costOf_1 : decode cX5_costOf 1 = .ok (.istore_n 2, 1) := by decide +kernel
theorem dX5_costOf_2 : decode cX5_costOf 2 = .ok (.iconst 0, 1) := by decide +kernel
theorem dX5_costOf_3 : decode cX5_costOf 3 = .ok (.istore_n 3, 1) := by decide +kernel
theorem dX5_costOf_4 : decode cX5_costOf 4 = .ok (.iload_n 3, 1) := by decide +kernel
theorem dX5_costOf_5 : decode cX5_costOf 5 = .ok (.aload_n 0, 1) := by decide +kernel
theorem dX5_costOf_6 : decode cX5_costOf 6 = .ok (.getfield 13, 3) := by decide +kernel
theorem dX5_costOf_9 : decode cX5_costOf 9 = .ok (.iconst 0, 1) := by decide +kernel
theorem dX5_costOf_10 : decode cX5_costOf 10 = .ok (.iaload, 1) := by decide +kernel
theorem dX5_costOf_11 : decode cX5_costOf 11 = .ok (.if_icmp .ge 34, 3) := by decide +kernel
theorem dX5_costOf_14 : decode cX5_costOf 14 = .ok (.iload_n 2, 1) := by decide +kernel
theorem dX5_costOf_15 : decode cX5_costOf 15 = .ok (.iload_n 1, 1) := by decide +kernel
theorem dX5_costOf_16 : decode cX5_costOf 16 = .ok (.iload_n 3, 1) := by decide +kernel
theorem dX5_costOf_17 : decode cX5_costOf 17 = .ok (.ishr, 1) := by decide +kernel
theorem dX5_costOf_18 : decode cX5_costOf 18 = .ok (.iconst 1, 1) := by decide +kernel
theorem dX5_costOf_19 : decode cX5_costOf 19 = .ok (.iand, 1) := by decide +kernel
theorem dX5_costOf_20 : decode cX5_costOf 20 = .ok (.iconst 1, 1) := by decide +kernel
theorem dX5_costOf_21 : decode cX5_costOf 21 = .ok (.if_icmp .ne 15, 3) := by decide +kernel
theorem dX5_costOf_24 : decode cX5_costOf 24 = .ok (.aload_n 0, 1) := by decide +kernel
theorem dX5_costOf_25 : decode cX5_costOf 25 = .ok (.getfield 13, 3) := by decide +kernel
theorem dX5_costOf_28 : decode cX5_costOf 28 = .ok (.bipush 18, 2) := by decide +kernel
theorem dX5_costOf_30 : decode cX5_costOf 30 = .ok (.iload_n 3, 1) := by decide +kernel
theorem dX5_costOf_31 : decode cX5_costOf 31 = .ok (.iadd, 1) := by decide +kernel
theorem dX5_costOf_32 : decode cX5_costOf 32 = .ok (.iaload, 1) := by decide +kernel
theorem dX5_costOf_33 : decode cX5_costOf 33 = .ok (.goto 4, 3) := by decide +kernel
theorem dX5_costOf_36 : decode cX5_costOf 36 = .ok (.iconst 0, 1) := by decide +kernel
theorem dX5_costOf_37 : decode cX5_costOf 37 = .ok (.iadd, 1) := by decide +kernel
theorem dX5_costOf_38 : decode cX5_costOf 38 = .ok (.istore_n 2, 1) := by decide +kernel
theorem dX5_costOf_39 : decode cX5_costOf 39 = .ok (.iinc 3 1, 3) := by decide +kernel
theorem dX5_costOf_42 : decode cX5_costOf 42 = .ok (.goto (-38), 3) := by decide +kernel
theorem dX5_costOf_45 : decode cX5_costOf 45 = .ok (.iload_n 2, 1) := by decide +kernel
theorem dX5_costOf_46 : decode cX5_costOf 46 = .ok (.ireturn, 1) := by decide +kernel
theorem dX5_bribe_0 : decode cX5_bribe 0 = .ok (.aload_n 0, 1) := by decide +kernel
theorem dX5_bribe_1 : decode cX5_bribe 1 = .ok (.iload_n 1, 1) := by decide +kernel
theorem dX5_bribe_2 : decode cX5_bribe 2 = .ok (.invokevirtual 120, 3) := by decide +kernel
theorem dX5_bribe_5 : decode cX5_bribe 5 = .ok (.ifCond .ne 5, 3) := by decide +kernel
theorem dX5_bribe_8 : decode cX5_bribe 8 = .ok (.iconst (-1), 1) := by decide +kernel
theorem dX5_bribe_9 : decode cX5_bribe 9 = .ok (.ireturn, 1) := by decide +kernel
theorem dX5_bribe_10 : decode cX5_bribe 10 = .ok (.aload_n 0, 1) := by decide +kernel
theorem dX5_bribe_11 : decode cX5_bribe 11 = .ok (.invokevirtual 138, 3) := by decide +kernel
theorem dX5_bribe_14 : decode cX5_bribe 14 = .ok (.aload_n 0, 1) := by decide +kernel
theorem dX5_bribe_15 : decode cX5_bribe 15 = .ok (.getfield 19, 3) := by decide +kernel
theorem dX5_bribe_18 : decode cX5_bribe 18 = .ok (.bipush 7, 2) := by decide +kernel
theorem dX5_bribe_20 : decode cX5_bribe 20 = .ok (.dup2, 1) := by decide +kernel
theorem dX5_bribe_21 : decode cX5_bribe 21 = .ok (.iaload, 1) := by decide +kernel
theorem dX5_bribe_22 : decode cX5_bribe 22 = .ok (.iconst 1, 1) := by decide +kernel
theorem dX5_bribe_23 : decode cX5_bribe 23 = .ok (.iload_n 1, 1) := by decide +kernel
theorem dX5_bribe_24 : decode cX5_bribe 24 = .ok (.ishl, 1) := by decide +kernel
theorem dX5_bribe_25 : decode cX5_bribe 25 = .ok (.ixor, 1) := by decide +kernel
theorem dX5_bribe_26 : decode cX5_bribe 26 = .ok (.iastore, 1) := by decide +kernel
theorem dX5_bribe_27 : decode cX5_bribe 27 = .ok (.aload_n 0, 1) := by decide +kernel
theorem dX5_bribe_28 : decode cX5_bribe 28 = .ok (.aload_n 0, 1) := by decide +kernel
theorem dX5_bribe_29 : decode cX5_bribe 29 = .ok (.getfield 19, 3) := by decide +kernel
theorem dX5_bribe_32 : decode cX5_bribe 32 = .ok (.bipush 7, 2) := by decide +kernel
theorem dX5_bribe_34 : decode cX5_bribe 34 = .ok (.iaload, 1) := by decide +kernel
theorem dX5_bribe_35 : decode cX5_bribe 35 = .ok (.invokevirtual 141, 3) := by decide +kernel
theorem dX5_bribe_38 : decode cX5_bribe 38 = .ok (.ireturn, 1) := by decide +kernel
theorem dX5_undo_0 : decode cX5_undo 0 = .ok (.aload_n 0, 1) := by decide +kernel
theorem dX5_undo_1 : decode cX5_undo 1 = .ok (.getfield 90, 3) := by decide +kernel
theorem dX5_undo_4 : decode cX5_undo 4 = .ok (.ifCond .ne 6, 3) := by decide +kernel
theorem dX5_undo_7 : decode cX5_undo 7 = .ok (.bipush (-2), 2) := by decide +kernel
theorem dX5_undo_9 : decode cX5_undo 9 = .ok (.ireturn, 1) := by decide +kernel
theorem dX5_undo_10 : decode cX5_undo 10 = .ok (.aload_n 0, 1) := by decide +kernel
theorem dX5_undo_11 : decode cX5_undo 11 = .ok (.dup, 1) := by decide +kernel
theorem dX5_undo_12 : decode cX5_undo 12 = .ok (.getfield 90, 3) := by decide +kernel
theorem dX5_undo_15 : decode cX5_undo 15 = .ok (.iconst 1, 1) := by decide +kernel
theorem dX5_undo_16 : decode cX5_undo 16 = .ok (.isub, 1) := by decide +kernel
theorem dX5_undo_17 : decode cX5_undo 17 = .ok (.putfield 90, 3) := by decide +kernel
theorem dX5_undo_20 : decode cX5_undo 20 = .ok (.iconst 0, 1) := by decide +kernel
theorem dX5_undo_21 : decode cX5_undo 21 = .ok (.istore_n 1, 1) := by decide +kernel
theorem dX5_undo_22 : decode cX5_undo 22 = .ok (.iload_n 1, 1) := by decide +kernel
theorem dX5_undo_23 : decode cX5_undo 23 = .ok (.bipush 8, 2) := by decide +kernel
theorem dX5_undo_25 : decode cX5_undo 25 = .ok (.if_icmp .ge 29, 3) := by decide +kernel
theorem dX5_undo_28 : decode cX5_undo 28 = .ok (.aload_n 0, 1) := by decide +kernel
theorem dX5_undo_29 : decode cX5_undo 29 = .ok (.getfield 19, 3) := by decide +kernel
theorem dX5_undo_32 : decode cX5_undo 32 = .ok (.iload_n 1, 1) := by decide +kernel
theorem dX5_undo_33 : decode cX5_undo 33 = .ok (.aload_n 0, 1) := by decide +kernel
theorem dX5_undo_34 : decode cX5_undo 34 = .ok (.getfield 22, 3) := by decide +kernel
theorem dX5_undo_37 : decode cX5_undo 37 = .ok (.bipush 8, 2) := by decide +kernel
theorem dX5_undo_39 : decode cX5_undo 39 = .ok (.aload_n 0, 1) := by decide +kernel
theorem dX5_undo_40 : decode cX5_undo 40 = .ok (.getfield 90, 3) := by decide +kernel
theorem dX5_undo_43 : decode cX5_undo 43 = .ok (.imul, 1) := by decide +kernel
theorem dX5_undo_44 : decode cX5_undo 44 = .ok (.iload_n 1, 1) := by decide +kernel
theorem dX5_undo_45 : decode cX5_undo 45 = .ok (.iadd, 1) := by decide +kernel
theorem dX5_undo_46 : decode cX5_undo 46 = .ok (.iaload, 1) := by decide +kernel
theorem dX5_undo_47 : decode cX5_undo 47 = .ok (.iastore, 1) := by decide +kernel
theorem dX5_undo_48 : decode cX5_undo 48 = .ok (.iinc 1 1, 3) := by decide +kernel
theorem dX5_undo_51 : decode cX5_undo 51 = .ok (.goto (-29), 3) := by decide +kernel
theorem dX5_undo_54 : decode cX5_undo 54 = .ok (.aload_n 0, 1) := by decide +kernel
theorem dX5_undo_55 : decode cX5_undo 55 = .ok (.getfield 90, 3) := by decide +kernel
theorem dX5_undo_58 : decode cX5_undo 58 = .ok (.ireturn, 1) := by decide +kernel
theorem dX5_firstSeating_0 : decode cX5_firstSeating 0 = .ok (.iconst 0, 1) := by decide +kernel
theorem dX5_firstSeating_1 : decode cX5_firstSeating 1 = .ok (.istore_n 1, 1) := by decide +kernel
theorem dX5_firstSeating_2 : decode cX5_firstSeating 2 = .ok (.iload_n 1, 1) := by decide +kernel
theorem dX5_firstSeating_3 : decode cX5_firstSeating 3 = .ok (.aload_n 0, 1) := by decide +kernel
theorem dX5_firstSeating_4 : decode cX5_firstSeating 4 = .ok (.getfield 13, 3) := by decide +kernel
theorem dX5_firstSeating_7 : decode cX5_firstSeating 7 = .ok (.iconst 0, 1) := by decide +kernel
theorem dX5_firstSeating_8 : decode cX5_firstSeating 8 = .ok (.iaload, 1) := by decide +kernel
theorem dX5_firstSeating_9 : decode cX5_firstSeating 9 = .ok (.if_icmp .ge 16, 3) := by decide +kernel
theorem dX5_firstSeating_12 : decode cX5_firstSeating 12 = .ok (.aload_n 0, 1) := by decide +kernel
theorem dX5_firstSeating_13 : decode cX5_firstSeating 13 = .ok (.getfield 31, 3) := by decide +kernel
theorem dX5_firstSeating_16 : decode cX5_firstSeating 16 = .ok (.iload_n 1, 1) := by decide +kernel
theorem dX5_firstSeating_17 : decode cX5_firstSeating 17 = .ok (.iload_n 1, 1) := by decide +kernel
theorem dX5_firstSeating_18 : decode cX5_firstSeating 18 = .ok (.iastore, 1) := by decide +kernel
theorem dX5_firstSeating_19 : decode cX5_firstSeating 19 = .ok (.iinc 1 1, 3) := by decide +kernel
theorem dX5_firstSeating_22 : decode cX5_firstSeating 22 = .ok (.goto (-20), 3) := by decide +kernel
theorem dX5_firstSeating_25 : decode cX5_firstSeating 25 = .ok (.return_, 1) := by decide +kernel
theorem dX5_nextSeating_0 : decode cX5_nextSeating 0 = .ok (.aload_n 0, 1) := by decide +kernel
theorem dX5_nextSeating_1 : decode cX5_nextSeating 1 = .ok (.getfield 13, 3) := by decide +kernel
theorem dX5_nextSeating_4 : decode cX5_nextSeating 4 = .ok (.iconst 0, 1) := by decide +kernel
theorem dX5_nextSeating_5 : decode cX5_nextSeating 5 = .ok (.iaload, 1) := by decide +kernel
theorem dX5_nextSeating_6 : decode cX5_nextSeating 6 = .ok (.istore_n 1, 1) := by decide +kernel
theorem dX5_nextSeating_7 : decode cX5_nextSeating 7 = .ok (.iload_n 1, 1) := by decide +kernel
theorem dX5_nextSeating_8 : decode cX5_nextSeating 8 = .ok (.iconst 2, 1) := by decide +kernel
theorem dX5_nextSeating_9 : decode cX5_nextSeating 9 = .ok (.isub, 1) := by decide +kernel
theorem dX5_nextSeating_10 : decode cX5_nextSeating 10 = .ok (.istore_n 2, 1) := by decide +kernel
theorem dX5_nextSeating_11 : decode cX5_nextSeating 11 = .ok (.iload_n 2, 1) := by decide +kernel
theorem dX5_nextSeating_12 : decode cX5_nextSeating 12 = .ok (.ifCond .lt 26, 3) := by decide +kernel
theorem dX5_nextSeating_15 : decode cX5_nextSeating 15 = .ok (.aload_n 0, 1) := by decide +kernel
theorem dX5_nextSeating_16 : decode cX5_nextSeating 16 = .ok (.getfield 31, 3) := by decide +kernel
theorem dX5_nextSeating_19 : decode cX5_nextSeating 19 = .ok (.iload_n 2, 1) := by decide +kernel
theorem dX5_nextSeating_20 : decode cX5_nextSeating 20 = .ok (.iaload, 1) := by decide +kernel
theorem dX5_nextSeating_21 : decode cX5_nextSeating 21 = .ok (.aload_n 0, 1) := by decide +kernel
theorem dX5_nextSeating_22 : decode cX5_nextSeating 22 = .ok (.getfield 31, 3) := by decide +kernel
theorem dX5_nextSeating_25 : decode cX5_nextSeating 25 = .ok (.iload_n 2, 1) := by decide +kernel
theorem dX5_nextSeating_26 : decode cX5_nextSeating 26 = .ok (.iconst 1, 1) := by decide +kernel
theorem dX5_nextSeating_27 : decode cX5_nextSeating 27 = .ok (.iadd, 1) := by decide +kernel
theorem dX5_nextSeating_28 : decode cX5_nextSeating 28 = .ok (.iaload, 1) := by decide +kernel
theorem dX5_nextSeating_29 : decode cX5_nextSeating 29 = .ok (.if_icmp .le 9, 3) := by decide +kernel
theorem dX5_nextSeating_32 : decode cX5_nextSeating 32 = .ok (.iinc 2 (-1), 3) := by decide +kernel
theorem dX5_nextSeating_35 : decode cX5_nextSeating 35 = .ok (.goto (-24), 3) := by decide +kernel
theorem dX5_nextSeating_38 : decode cX5_nextSeating 38 = .ok (.iload_n 2, 1) := by decide +kernel
theorem dX5_nextSeating_39 : decode cX5_nextSeating 39 = .ok (.ifCond .ge 5, 3) := by decide +kernel
theorem dX5_nextSeating_42 : decode cX5_nextSeating 42 = .ok (.iconst 0, 1) := by decide +kernel
theorem dX5_nextSeating_43 : decode cX5_nextSeating 43 = .ok (.ireturn, 1) := by decide +kernel
theorem dX5_nextSeating_44 : decode cX5_nextSeating 44 = .ok (.iload_n 1, 1) := by decide +kernel
theorem dX5_nextSeating_45 : decode cX5_nextSeating 45 = .ok (.iconst 1, 1) := by decide +kernel
theorem dX5_nextSeating_46 : decode cX5_nextSeating 46 = .ok (.isub, 1) := by decide +kernel
theorem dX5_nextSeating_47 : decode cX5_nextSeating 47 = .ok (.istore_n 3, 1) := by decide +kernel
theorem dX5_nextSeating_48 : decode cX5_nextSeating 48 = .ok (.aload_n 0, 1) := by decide +kernel
theorem dX5_nextSeating_49 : decode cX5_nextSeating 49 = .ok (.getfield 31, 3) := by decide +kernel
theorem dX5_nextSeating_52 : decode cX5_nextSeating 52 = .ok (.iload_n 3, 1) := by decide +kernel
theorem dX5_nextSeating_53 : decode cX5_nextSeating 53 = .ok (.iaload, 1) := by decide +kernel
theorem dX5_nextSeating_54 : decode cX5_nextSeating 54 = .ok (.aload_n 0, 1) := by decide +kernel
theorem dX5_nextSeating_55 : decode cX5_nextSeating 55 = .ok (.getfield 31, 3) := by decide +kernel
theorem dX5_nextSeating_58 : decode cX5_nextSeating 58 = .ok (.iload_n 2, 1) := by decide +kernel
theorem dX5_nextSeating_59 : decode cX5_nextSeating 59 = .ok (.iaload, 1) := by decide +kernel
theorem dX5_nextSeating_60 : decode cX5_nextSeating 60 = .ok (.if_icmp .ge 9, 3) := by decide +kernel
theorem dX5_nextSeating_63 : decode cX5_nextSeating 63 = .ok (.iinc 3 (-1), 3) := by decide +kernel
theorem dX5_nextSeating_66 : decode cX5_nextSeating 66 = .ok (.goto (-18), 3) := by decide +kernel
theorem dX5_nextSeating_69 : decode cX5_nextSeating 69 = .ok (.aload_n 0, 1) := by decide +kernel
theorem dX5_nextSeating_70 : decode cX5_nextSeating 70 = .ok (.iload_n 2, 1) := by decide +kernel
theorem dX5_nextSeating_71 : decode cX5_nextSeating 71 = .ok (.iload_n 3, 1) := by decide +kernel
theorem dX5_nextSeating_72 : decode cX5_nextSeating 72 = .ok (.invokevirtual 144, 3) := by decide +kernel
theorem dX5_nextSeating_75 : decode cX5_nextSeating 75 = .ok (.iconst 0, 1) := by decide +kernel
theorem dX5_nextSeating_76 : decode cX5_nextSeating 76 = .ok (.istore 4, 2) := by decide +kernel
theorem dX5_nextSeating_78 : decode cX5_nextSeating 78 = .ok (.iload_n 2, 1) := by decide +kernel
theorem dX5_nextSeating_79 : decode cX5_nextSeating 79 = .ok (.iconst 1, 1) := by decide +kernel
theorem dX5_nextSeating_80 : decode cX5_nextSeating 80 = .ok (.iadd, 1) := by decide +kernel
theorem dX5_nextSeating_81 : decode cX5_nextSeating 81 = .ok (.iload 4, 2) := by decide +kernel
theorem dX5_nextSeating_83 : decode cX5_nextSeating 83 = .ok (.iadd, 1) := by decide +kernel
theorem dX5_nextSeating_84 : decode cX5_nextSeating 84 = .ok (.iload_n 1, 1) := by decide +kernel
theorem dX5_nextSeating_85 : decode cX5_nextSeating 85 = .ok (.iconst 1, 1) := by decide +kernel
theorem dX5_nextSeating_86 : decode cX5_nextSeating 86 = .ok (.isub, 1) := by decide +kernel
theorem dX5_nextSeating_87 : decode cX5_nextSeating 87 = .ok (.iload 4, 2) := by decide +kernel
theorem dX5_nextSeating_89 : decode cX5_nextSeating 89 = .ok (.isub, 1) := by decide +kernel
theorem dX5_nextSeating_90 : decode cX5_nextSeating 90 = .ok (.if_icmp .ge 25, 3) := by decide +kernel
theorem dX5_nextSeating_93 : decode cX5_nextSeating 93 = .ok (.aload_n 0, 1) := by decide +kernel
theorem dX5_nextSeating_94 : decode cX5_nextSeating 94 = .ok (.iload_n 2, 1) := by decide +kernel
theorem dX5_nextSeating_95 : decode cX5_nextSeating 95 = .ok (.iconst 1, 1) := by decide +kernel
theorem dX5_nextSeating_96 : decode cX5_nextSeating 96 = .ok (.iadd, 1) := by decide +kernel
theorem dX5_nextSeating_97 : decode cX5_nextSeating 97 = .ok (.iload 4, 2) := by decide +kernel
theorem dX5_nextSeating_99 : decode cX5_nextSeating 99 = .ok (.iadd, 1) := by decide +kernel
theorem dX5_nextSeating_100 : decode cX5_nextSeating 100 = .ok (.iload_n 1, 1) := by decide +kernel
theorem dX5_nextSeating_101 : decode cX5_nextSeating 101 = .ok (.iconst 1, 1) := by decide +kernel
theorem dX5_nextSeating_102 : decode cX5_nextSeating 102 = .ok (.isub, 1) := by decide +kernel
theorem dX5_nextSeating_103 : decode cX5_nextSeating 103 = .ok (.iload 4, 2) := by decide +kernel
theorem dX5_nextSeating_105 : decode cX5_nextSeating 105 = .ok (.isub, 1) := by decide +kernel
theorem dX5_nextSeating_106 : decode cX5_nextSeating 106 = .ok (.invokevirtual 144, 3) := by decide +kernel
theorem dX5_nextSeating_109 : decode cX5_nextSeating 109 = .ok (.iinc 4 1, 3) := by decide +kernel
theorem dX5_nextSeating_112 : decode cX5_nextSeating 112 = .ok (.goto (-34), 3) := by decide +kernel
theorem dX5_nextSeating_115 : decode cX5_nextSeating 115 = .ok (.iconst 1, 1) := by decide +kernel
theorem dX5_nextSeating_116 : decode cX5_nextSeating 116 = .ok (.ireturn, 1) := by decide +kernel
theorem dX5_swaps_0 : decode cX5_swaps 0 = .ok (.aload_n 0, 1) := by decide +kernel
theorem dX5_swaps_1 : decode cX5_swaps 1 = .ok (.getfield 31, 3) := by decide +kernel
theorem dX5_swaps_4 : decode cX5_swaps 4 = .ok (.iload_n 1, 1) := by decide +kernel
theorem dX5_swaps_5 : decode cX5_swaps 5 = .ok (.iaload, 1) := by decide +kernel
theorem dX5_swaps_6 : decode cX5_swaps 6 = .ok (.istore_n 3, 1) := by decide +kernel
theorem dX5_swaps_7 : decode cX5_swaps 7 = .ok (.aload_n 0, 1) := by decide +kernel
theorem dX5_swaps_8 : decode cX5_swaps 8 = .ok (.getfield 31, 3) := by decide +kernel
theorem dX5_swaps_11 : decode cX5_swaps 11 = .ok (.iload_n 1, 1) := by decide +kernel
theorem dX5_swaps_12 : decode cX5_swaps 12 = .ok (.aload_n 0, 1) := by decide +kernel
theorem dX5_swaps_13 : decode cX5_swaps 13 = .ok (.getfield 31, 3) := by decide +kernel
theorem dX5_swaps_16 : decode cX5_swaps 16 = .ok (.iload_n 2, 1) := by decide +kernel
theorem dX5_swaps_17 : decode cX5_swaps 17 = .ok (.iaload, 1) := by decide +kernel
theorem dX5_swaps_18 : decode cX5_swaps 18 = .ok (.iastore, 1) := by decide +kernel
theorem dX5_swaps_19 : decode cX5_swaps 19 = .ok (.aload_n 0, 1) := by decide +kernel
theorem dX5_swaps_20 : decode cX5_swaps 20 = .ok (.getfield 31, 3) := by decide +kernel
theorem dX5_swaps_23 : decode cX5_swaps 23 = .ok (.iload_n 2, 1) := by decide +kernel
theorem dX5_swaps_24 : decode cX5_swaps 24 = .ok (.iload_n 3, 1) := by decide +kernel
theorem dX5_swaps_25 : decode cX5_swaps 25 = .ok (.iastore, 1) := by decide +kernel
theorem dX5_swaps_26 : decode cX5_swaps 26 = .ok (.return_, 1) := by decide +kernel
theorem dX5_best_0 : decode cX5_best 0 = .ok (.iload_n 1, 1) := by decide +kernel
theorem dX5_best_1 : decode cX5_best 1 = .ok (.iconst (-1), 1) := by decide +kernel
theorem dX5_best_2 : decode cX5_best 2 = .ok (.if_icmp .eq 13, 3) := by decide +kernel
theorem dX5_best_5 : decode cX5_best 5 = .ok (.aload_n 0, 1) := by decide +kernel
theorem dX5_best_6 : decode cX5_best 6 = .ok (.iload_n 1, 1) := by decide +kernel
theorem dX5_best_7 : decode cX5_best 7 = .ok (.invokevirtual 120, 3) := by decide +kernel
theorem dX5_best_10 : decode cX5_best 10 = .ok (.ifCond .ne 5, 3) := by decide +kernel
theorem dX5_best_13 : decode cX5_best 13 = .ok (.iconst (-1), 1) := by decide +kernel
theorem dX5_best_14 : decode cX5_best 14 = .ok (.ireturn, 1) := by decide +kernel
theorem dX5_best_15 : decode cX5_best 15 = .ok (.aload_n 0, 1) := by decide +kernel
theorem dX5_best_16 : decode cX5_best 16 = .ok (.invokevirtual 123, 3) := by decide +kernel
theorem dX5_best_19 : decode cX5_best 19 = .ok (.aload_n 0, 1) := by decide +kernel
theorem dX5_best_20 : decode cX5_best 20 = .ok (.invokevirtual 148, 3) := by decide +kernel
theorem dX5_best_23 : decode cX5_best 23 = .ok (.iconst (-1), 1) := by decide +kernel
theorem dX5_best_24 : decode cX5_best 24 = .ok (.istore_n 2, 1) := by decide +kernel
theorem dX5_best_25 : decode cX5_best 25 = .ok (.iconst 0, 1) := by decide +kernel
theorem dX5_best_26 : decode cX5_best 26 = .ok (.istore_n 3, 1) := by decide +kernel
theorem dX5_best_27 : decode cX5_best 27 = .ok (.iconst 1, 1) := by decide +kernel
theorem dX5_best_28 : decode cX5_best 28 = .ok (.istore 4, 2) := by decide +kernel
theorem dX5_best_30 : decode cX5_best 30 = .ok (.iload 4, 2) := by decide +kernel
theorem dX5_best_32 : decode cX5_best 32 = .ok (.ifCond .eq 45, 3) := by decide +kernel
theorem dX5_best_35 : decode cX5_best 35 = .ok (.aload_n 0, 1) := by decide +kernel
theorem dX5_best_36 : decode cX5_best 36 = .ok (.invokevirtual 126, 3) := by decide +kernel
theorem dX5_best_39 : decode cX5_best 39 = .ok (.pop, 1) := by decide +kernel
theorem dX5_best_40 : decode cX5_best 40 = .ok (.aload_n 0, 1) := by decide +kernel
theorem dX5_best_41 : decode cX5_best 41 = .ok (.getfield 108, 3) := by decide +kernel
theorem dX5_best_44 : decode cX5_best 44 = .ok (.iload_n 2, 1) := by decide +kernel
theorem dX5_best_45 : decode cX5_best 45 = .ok (.if_icmp .le 23, 3) := by decide +kernel
theorem dX5_best_48 : decode cX5_best 48 = .ok (.aload_n 0, 1) := by decide +kernel
theorem dX5_best_49 : decode cX5_best 49 = .ok (.getfield 108, 3) := by decide +kernel
theorem dX5_best_52 : decode cX5_best 52 = .ok (.istore_n 2, 1) := by decide +kernel
theorem dX5_best_53 : decode cX5_best 53 = .ok (.iload_n 1, 1) := by decide +kernel
theorem dX5_best_54 : decode cX5_best 54 = .ok (.ifCond .ge 7, 3) := by decide +kernel
theorem dX5_best_57 : decode cX5_best 57 = .ok (.iconst 0, 1) := by decide +kernel
theorem dX5_best_58 : decode cX5_best 58 = .ok (.goto 9, 3) := by decide +kernel
theorem dX5_best_61 : decode cX5_best 61 = .ok (.aload_n 0, 1) := by decide +kernel
theorem dX5_best_62 : decode cX5_best 62 = .ok (.getfield 31, 3) := by decide +kernel
theorem dX5_best_65 : decode cX5_best 65 = .ok (.iload_n 1, 1) := by decide +kernel
theorem dX5_best_66 : decode cX5_best 66 = .ok (.iaload, 1) := by decide +kernel
theorem dX5_best_67 : decode cX5_best 67 = .ok (.istore_n 3, 1) := by decide +kernel
theorem dX5_best_68 : decode cX5_best 68 = .ok (.aload_n 0, 1) := by decide +kernel
theorem dX5_best_69 : decode cX5_best 69 = .ok (.invokevirtual 151, 3) := by decide +kernel
theorem dX5_best_72 : decode cX5_best 72 = .ok (.istore 4, 2) := by decide +kernel
theorem dX5_best_74 : decode cX5_best 74 = .ok (.goto (-44), 3) := by decide +kernel
theorem dX5_best_77 : decode cX5_best 77 = .ok (.iload_n 1, 1) := by decide +kernel
theorem dX5_best_78 : decode cX5_best 78 = .ok (.iconst (-1), 1) := by decide +kernel
theorem dX5_best_79 : decode cX5_best 79 = .ok (.if_icmp .ne 7, 3) := by decide +kernel
theorem dX5_best_82 : decode cX5_best 82 = .ok (.iload_n 2, 1) := by decide +kernel
theorem dX5_best_83 : decode cX5_best 83 = .ok (.goto 4, 3) := by decide +kernel
theorem dX5_best_86 : decode cX5_best 86 = .ok (.iload_n 3, 1) := by decide +kernel
theorem dX5_best_87 : decode cX5_best 87 = .ok (.ireturn, 1) := by decide +kernel
theorem dX5_far_0 : decode cX5_far 0 = .ok (.iconst 0, 1) := by decide +kernel
theorem dX5_far_1 : decode cX5_far 1 = .ok (.istore_n 1, 1) := by decide +kernel
theorem dX5_far_2 : decode cX5_far 2 = .ok (.iconst 0, 1) := by decide +kernel
theorem dX5_far_3 : decode cX5_far 3 = .ok (.istore_n 2, 1) := by decide +kernel
theorem dX5_far_4 : decode cX5_far 4 = .ok (.iconst 0, 1) := by decide +kernel
theorem dX5_far_5 : decode cX5_far 5 = .ok (.istore_n 3, 1) := by decide +kernel
theorem dX5_far_6 : decode cX5_far 6 = .ok (.iload_n 3, 1) := by decide +kernel
theorem dX5_far_7 : decode cX5_far 7 = .ok (.aload_n 0, 1) := by decide +kernel
theorem dX5_far_8 : decode cX5_far 8 = .ok (.getfield 13, 3) := by decide +kernel
theorem dX5_far_11 : decode cX5_far 11 = .ok (.iconst 0, 1) := by decide +kernel
theorem dX5_far_12 : decode cX5_far 12 = .ok (.iaload, 1) := by decide +kernel
theorem dX5_far_13 : decode cX5_far 13 = .ok (.if_icmp .ge 60, 3) := by decide +kernel
theorem dX5_far_16 : decode cX5_far 16 = .ok (.iload_n 2, 1) := by decide +kernel
theorem dX5_far_17 : decode cX5_far 17 = .ok (.iload_n 1, 1) := by decide +kernel
theorem dX5_far_18 : decode cX5_far 18 = .ok (.iload_n 3, 1) := by decide +kernel
theorem dX5_far_19 : decode cX5_far 19 = .ok (.ishr, 1) := by decide +kernel
theorem dX5_far_20 : decode cX5_far 20 = .ok (.iconst 1, 1) := by decide +kernel
theorem dX5_far_21 : decode cX5_far 21 = .ok (.iand, 1) := by decide +kernel
theorem dX5_far_22 : decode cX5_far 22 = .ok (.ifCond .ne 7, 3) := by decide +kernel
theorem dX5_far_25 : decode cX5_far 25 = .ok (.iconst 1, 1) := by decide +kernel
theorem dX5_far_26 : decode cX5_far 26 = .ok (.goto 4, 3) := by decide +kernel
theorem dX5_far_29 : decode cX5_far 29 = .ok (.iconst 0, 1) := by decide +kernel
theorem dX5_far_30 : decode cX5_far 30 = .ok (.iadd, 1) := by decide +kernel
theorem dX5_far_31 : decode cX5_far 31 = .ok (.istore_n 2, 1) := by decide +kernel
theorem dX5_far_32 : decode cX5_far 32 = .ok (.iload_n 3, 1) := by decide +kernel
theorem dX5_far_33 : decode cX5_far 33 = .ok (.istore 4, 2) := by decide +kernel
theorem dX5_far_35 : decode cX5_far 35 = .ok (.iload_n 1, 1) := by decide +kernel
theorem dX5_far_36 : decode cX5_far 36 = .ok (.iload 4, 2) := by decide +kernel
theorem dX5_far_38 : decode cX5_far 38 = .ok (.ishr, 1) := by decide +kernel
theorem dX5_far_39 : decode cX5_far 39 = .ok (.iconst 1, 1) := by decide +kernel
theorem dX5_far_40 : decode cX5_far 40 = .ok (.iand, 1) := by decide +kernel
theorem dX5_far_41 : decode cX5_far 41 = .ok (.ifCond .ne 26, 3) := by decide +kernel
theorem dX5_far_44 : decode cX5_far 44 = .ok (.iload_n 1, 1) := by decide +kernel
theorem dX5_far_45 : decode cX5_far 45 = .ok (.iconst 1, 1) := by decide +kernel
theorem dX5_far_46 : decode cX5_far 46 = .ok (.iload 4, 2) := by decide +kernel
theorem dX5_far_48 : decode cX5_far 48 = .ok (.ishl, 1) := by decide +kernel
theorem dX5_far_49 : decode cX5_far 49 = .ok (.ior, 1) := by decide +kernel
theorem dX5_far_50 : decode cX5_far 50 = .ok (.istore_n 1, 1) := by decide +kernel
theorem dX5_far_51 : decode cX5_far 51 = .ok (.aload_n 0, 1) := by decide +kernel
theorem dX5_far_52 : decode cX5_far 52 = .ok (.aload_n 0, 1) := by decide +kernel
theorem dX5_far_53 : decode cX5_far 53 = .ok (.getfield 31, 3) := by decide +kernel
theorem dX5_far_56 : decode cX5_far 56 = .ok (.iload 4, 2) := by decide +kernel
theorem dX5_far_58 : decode cX5_far 58 = .ok (.iaload, 1) := by decide +kernel
theorem dX5_far_59 : decode cX5_far 59 = .ok (.invokevirtual 129, 3) := by decide +kernel
theorem dX5_far_62 : decode cX5_far 62 = .ok (.istore 4, 2) := by decide +kernel
theorem dX5_far_64 : decode cX5_far 64 = .ok (.goto (-29), 3) := by decide +kernel
theorem dX5_far_67 : decode cX5_far 67 = .ok (.iinc 3 1, 3) := by decide +kernel
theorem dX5_far_70 : decode cX5_far 70 = .ok (.goto (-64), 3) := by decide +kernel
theorem dX5_far_73 : decode cX5_far 73 = .ok (.aload_n 0, 1) := by decide +kernel
theorem dX5_far_74 : decode cX5_far 74 = .ok (.getfield 13, 3) := by decide +kernel
theorem dX5_far_77 : decode cX5_far 77 = .ok (.iconst 0, 1) := by decide +kernel
theorem dX5_far_78 : decode cX5_far 78 = .ok (.iaload, 1) := by decide +kernel
theorem dX5_far_79 : decode cX5_far 79 = .ok (.iload_n 2, 1) := by decide +kernel
theorem dX5_far_80 : decode cX5_far 80 = .ok (.isub, 1) := by decide +kernel
theorem dX5_far_81 : decode cX5_far 81 = .ok (.ireturn, 1) := by decide +kernel
theorem dX5_changes_0 : decode cX5_changes 0 = .ok (.aload_n 0, 1) := by decide +kernel
theorem dX5_changes_1 : decode cX5_changes 1 = .ok (.invokevirtual 123, 3) := by decide +kernel
theorem dX5_changes_4 : decode cX5_changes 4 = .ok (.aload_n 0, 1) := by decide +kernel
theorem dX5_changes_5 : decode cX5_changes 5 = .ok (.invokevirtual 148, 3) := by decide +kernel
theorem dX5_changes_8 : decode cX5_changes 8 = .ok (.bipush (-4), 2) := by decide +kernel
theorem dX5_changes_10 : decode cX5_changes 10 = .ok (.istore_n 1, 1) := by decide +kernel
theorem dX5_changes_11 : decode cX5_changes 11 = .ok (.iconst 1, 1) := by decide +kernel
theorem dX5_changes_12 : decode cX5_changes 12 = .ok (.istore_n 2, 1) := by decide +kernel
theorem dX5_changes_13 : decode cX5_changes 13 = .ok (.iload_n 2, 1) := by decide +kernel
theorem dX5_changes_14 : decode cX5_changes 14 = .ok (.ifCond .eq 46, 3) := by decide +kernel
theorem dX5_changes_17 : decode cX5_changes 17 = .ok (.aload_n 0, 1) := by decide +kernel
theorem dX5_changes_18 : decode cX5_changes 18 = .ok (.invokevirtual 126, 3) := by decide +kernel
theorem dX5_changes_21 : decode cX5_changes 21 = .ok (.aload_n 0, 1) := by decide +kernel
theorem dX5_changes_22 : decode cX5_changes 22 = .ok (.getfield 13, 3) := by decide +kernel
theorem dX5_changes_25 : decode cX5_changes 25 = .ok (.iconst 1, 1) := by decide +kernel
theorem dX5_changes_26 : decode cX5_changes 26 = .ok (.iaload, 1) := by decide +kernel
theorem dX5_changes_27 : decode cX5_changes 27 = .ok (.if_icmp .ne 25, 3) := by decide +kernel
theorem dX5_changes_30 : decode cX5_changes 30 = .ok (.aload_n 0, 1) := by decide +kernel
theorem dX5_changes_31 : decode cX5_changes 31 = .ok (.invokevirtual 155, 3) := by decide +kernel
theorem dX5_changes_34 : decode cX5_changes 34 = .ok (.istore_n 3, 1) := by decide +kernel
theorem dX5_changes_35 : decode cX5_changes 35 = .ok (.iload_n 1, 1) := by decide +kernel
theorem dX5_changes_36 : decode cX5_changes 36 = .ok (.bipush (-4), 2) := by decide +kernel
theorem dX5_changes_38 : decode cX5_changes 38 = .ok (.if_icmp .eq 8, 3) := by decide +kernel
theorem dX5_changes_41 : decode cX5_changes 41 = .ok (.iload_n 3, 1) := by decide +kernel
theorem dX5_changes_42 : decode cX5_changes 42 = .ok (.iload_n 1, 1) := by decide +kernel
theorem dX5_changes_43 : decode cX5_changes 43 = .ok (.if_icmp .ge 7, 3) := by decide +kernel
theorem dX5_changes_46 : decode cX5_changes 46 = .ok (.iload_n 3, 1) := by decide +kernel
theorem dX5_changes_47 : decode cX5_changes 47 = .ok (.goto 4, 3) := by decide +kernel
theorem dX5_changes_50 : decode cX5_changes 50 = .ok (.iload_n 1, 1) := by decide +kernel
theorem dX5_changes_51 : decode cX5_changes 51 = .ok (.istore_n 1, 1) := by decide +kernel
theorem dX5_changes_52 : decode cX5_changes 52 = .ok (.aload_n 0, 1) := by decide +kernel
theorem dX5_changes_53 : decode cX5_changes 53 = .ok (.invokevirtual 151, 3) := by decide +kernel
theorem dX5_changes_56 : decode cX5_changes 56 = .ok (.istore_n 2, 1) := by decide +kernel
theorem dX5_changes_57 : decode cX5_changes 57 = .ok (.goto (-44), 3) := by decide +kernel
theorem dX5_changes_60 : decode cX5_changes 60 = .ok (.iload_n 1, 1) := by decide +kernel
theorem dX5_changes_61 : decode cX5_changes 61 = .ok (.ireturn, 1) := by decide +kernel
theorem dX5_help_0 : decode cX5_help 0 = .ok (.iload_n 1, 1) := by decide +kernel
theorem dX5_help_1 : decode cX5_help 1 = .ok (.iconst 0, 1) := by decide +kernel
theorem dX5_help_2 : decode cX5_help 2 = .ok (.iconst 1, 1) := by decide +kernel
theorem dX5_help_3 : decode cX5_help 3 = .ok (.invokestatic 60, 3) := by decide +kernel
theorem dX5_help_6 : decode cX5_help 6 = .ok (.ifCond .ne 5, 3) := by decide +kernel
theorem dX5_help_9 : decode cX5_help 9 = .ok (.iconst (-1), 1) := by decide +kernel
theorem dX5_help_10 : decode cX5_help 10 = .ok (.ireturn, 1) := by decide +kernel
theorem dX5_help_11 : decode cX5_help 11 = .ok (.aload_n 0, 1) := by decide +kernel
theorem dX5_help_12 : decode cX5_help 12 = .ok (.invokevirtual 123, 3) := by decide +kernel
theorem dX5_help_15 : decode cX5_help 15 = .ok (.aload_n 0, 1) := by decide +kernel
theorem dX5_help_16 : decode cX5_help 16 = .ok (.invokevirtual 126, 3) := by decide +kernel
theorem dX5_help_19 : decode cX5_help 19 = .ok (.pop, 1) := by decide +kernel
theorem dX5_help_20 : decode cX5_help 20 = .ok (.aload_n 0, 1) := by decide +kernel
theorem dX5_help_21 : decode cX5_help 21 = .ok (.getfield 108, 3) := by decide +kernel
theorem dX5_help_24 : decode cX5_help 24 = .ok (.istore_n 2, 1) := by decide +kernel
theorem dX5_help_25 : decode cX5_help 25 = .ok (.bipush (-4), 2) := by decide +kernel
theorem dX5_help_27 : decode cX5_help 27 = .ok (.istore_n 3, 1) := by decide +kernel
theorem dX5_help_28 : decode cX5_help 28 = .ok (.iconst 0, 1) := by decide +kernel
theorem dX5_help_29 : decode cX5_help 29 = .ok (.istore 4, 2) := by decide +kernel
theorem dX5_help_31 : decode cX5_help 31 = .ok (.iload 4, 2) := by decide +kernel
theorem dX5_help_33 : decode cX5_help 33 = .ok (.aload_n 0, 1) := by decide +kernel
theorem dX5_help_34 : decode cX5_help 34 = .ok (.getfield 13, 3) := by decide +kernel
theorem dX5_help_37 : decode cX5_help 37 = .ok (.iconst 0, 1) := by decide +kernel
theorem dX5_help_38 : decode cX5_help 38 = .ok (.iaload, 1) := by decide +kernel
theorem dX5_help_39 : decode cX5_help 39 = .ok (.if_icmp .ge 91, 3) := by decide +kernel
theorem dX5_help_42 : decode cX5_help 42 = .ok (.iload 4, 2) := by decide +kernel
theorem dX5_help_44 : decode cX5_help 44 = .ok (.iconst 1, 1) := by decide +kernel
theorem dX5_help_45 : decode cX5_help 45 = .ok (.iadd, 1) := by decide +kernel
theorem dX5_help_46 : decode cX5_help 46 = .ok (.istore 5, 2) := by decide +kernel
theorem dX5_help_48 : decode cX5_help 48 = .ok (.iload 5, 2) := by decide +kernel
theorem dX5_help_50 : decode cX5_help 50 = .ok (.aload_n 0, 1) := by decide +kernel
theorem dX5_help_51 : decode cX5_help 51 = .ok (.getfield 13, 3) := by decide +kernel
theorem dX5_help_54 : decode cX5_help 54 = .ok (.iconst 0, 1) := by decide +kernel
theorem dX5_help_55 : decode cX5_help 55 = .ok (.iaload, 1) := by decide +kernel
theorem dX5_help_56 : decode cX5_help 56 = .ok (.if_icmp .ge 68, 3) := by decide +kernel
theorem dX5_help_59 : decode cX5_help 59 = .ok (.aload_n 0, 1) := by decide +kernel
theorem dX5_help_60 : decode cX5_help 60 = .ok (.iload 4, 2) := by decide +kernel
theorem dX5_help_62 : decode cX5_help 62 = .ok (.iload 5, 2) := by decide +kernel
theorem dX5_help_64 : decode cX5_help 64 = .ok (.invokevirtual 144, 3) := by decide +kernel
theorem dX5_help_67 : decode cX5_help 67 = .ok (.aload_n 0, 1) := by decide +kernel
theorem dX5_help_68 : decode cX5_help 68 = .ok (.invokevirtual 126, 3) := by decide +kernel
theorem dX5_help_71 : decode cX5_help 71 = .ok (.pop, 1) := by decide +kernel
theorem dX5_help_72 : decode cX5_help 72 = .ok (.aload_n 0, 1) := by decide +kernel
theorem dX5_help_73 : decode cX5_help 73 = .ok (.getfield 108, 3) := by decide +kernel
theorem dX5_help_76 : decode cX5_help 76 = .ok (.iload_n 2, 1) := by decide +kernel
theorem dX5_help_77 : decode cX5_help 77 = .ok (.if_icmp .le 14, 3) := by decide +kernel
theorem dX5_help_80 : decode cX5_help 80 = .ok (.bipush 8, 2) := by decide +kernel
theorem dX5_help_82 : decode cX5_help 82 = .ok (.iload 4, 2) := by decide +kernel
theorem dX5_help_84 : decode cX5_help 84 = .ok (.imul, 1) := by decide +kernel
theorem dX5_help_85 : decode cX5_help 85 = .ok (.iload 5, 2) := by decide +kernel
theorem dX5_help_87 : decode cX5_help 87 = .ok (.iadd, 1) := by decide +kernel
theorem dX5_help_88 : decode cX5_help 88 = .ok (.goto 4, 3) := by decide +kernel
theorem dX5_help_91 : decode cX5_help 91 = .ok (.iload_n 3, 1) := by decide +kernel
theorem dX5_help_92 : decode cX5_help 92 = .ok (.istore_n 3, 1) := by decide +kernel
theorem dX5_help_93 : decode cX5_help 93 = .ok (.aload_n 0, 1) := by decide +kernel
theorem dX5_help_94 : decode cX5_help 94 = .ok (.getfield 108, 3) := by decide +kernel
theorem dX5_help_97 : decode cX5_help 97 = .ok (.iload_n 2, 1) := by decide +kernel
theorem dX5_help_98 : decode cX5_help 98 = .ok (.if_icmp .le 10, 3) := by decide +kernel
theorem dX5_help_101 : decode cX5_help 101 = .ok (.aload_n 0, 1) := by decide +kernel
theorem dX5_help_102 : decode cX5_help 102 = .ok (.getfield 108, 3) := by decide +kernel
theorem dX5_help_105 : decode cX5_help 105 = .ok (.goto 4, 3) := by decide +kernel
theorem dX5_help_108 : decode cX5_help 108 = .ok (.iload_n 2, 1) := by decide +kernel
theorem dX5_help_109 : decode cX5_help 109 = .ok (.istore_n 2, 1) := by decide +kernel
theorem dX5_help_110 : decode cX5_help 110 = .ok (.aload_n 0, 1) := by decide +kernel
theorem dX5_help_111 : decode cX5_help 111 = .ok (.iload 4, 2) := by decide +kernel
theorem dX5_help_113 : decode cX5_help 113 = .ok (.iload 5, 2) := by decide +kernel
theorem dX5_help_115 : decode cX5_help 115 = .ok (.invokevirtual 144, 3) := by decide +kernel
theorem dX5_help_118 : decode cX5_help 118 = .ok (.iinc 5 1, 3) := by decide +kernel
theorem dX5_help_121 : decode cX5_help 121 = .ok (.goto (-73), 3) := by decide +kernel
theorem dX5_help_124 : decode cX5_help 124 = .ok (.iinc 4 1, 3) := by decide +kernel
theorem dX5_help_127 : decode cX5_help 127 = .ok (.goto (-96), 3) := by decide +kernel
theorem dX5_help_130 : decode cX5_help 130 = .ok (.iload_n 1, 1) := by decide +kernel
theorem dX5_help_131 : decode cX5_help 131 = .ok (.ifCond .eq 9, 3) := by decide +kernel
theorem dX5_help_134 : decode cX5_help 134 = .ok (.iload_n 3, 1) := by decide +kernel
theorem dX5_help_135 : decode cX5_help 135 = .ok (.bipush (-4), 2) := by decide +kernel
theorem dX5_help_137 : decode cX5_help 137 = .ok (.if_icmp .ne 7, 3) := by decide +kernel
theorem dX5_help_140 : decode cX5_help 140 = .ok (.iload_n 3, 1) := by decide +kernel
theorem dX5_help_141 : decode cX5_help 141 = .ok (.goto 4, 3) := by decide +kernel
theorem dX5_help_144 : decode cX5_help 144 = .ok (.iload_n 2, 1) := by decide +kernel
theorem dX5_help_145 : decode cX5_help 145 = .ok (.ireturn, 1) := by decide +kernel
theorem dX5_bribes_0 : decode cX5_bribes 0 = .ok (.iload_n 1, 1) := by decide +kernel
theorem dX5_bribes_1 : decode cX5_bribes 1 = .ok (.iconst 0, 1) := by decide +kernel
theorem dX5_bribes_2 : decode cX5_bribes 2 = .ok (.iconst 1, 1) := by decide +kernel
theorem dX5_bribes_3 : decode cX5_bribes 3 = .ok (.invokestatic 60, 3) := by decide +kernel
theorem dX5_bribes_6 : decode cX5_bribes 6 = .ok (.ifCond .ne 5, 3) := by decide +kernel
theorem dX5_bribes_9 : decode cX5_bribes 9 = .ok (.iconst (-1), 1) := by decide +kernel
theorem dX5_bribes_10 : decode cX5_bribes 10 = .ok (.ireturn, 1) := by decide +kernel
theorem dX5_bribes_11 : decode cX5_bribes 11 = .ok (.aload_n 0, 1) := by decide +kernel
theorem dX5_bribes_12 : decode cX5_bribes 12 = .ok (.invokevirtual 123, 3) := by decide +kernel
theorem dX5_bribes_15 : decode cX5_bribes 15 = .ok (.iconst 1, 1) := by decide +kernel
theorem dX5_bribes_16 : decode cX5_bribes 16 = .ok (.aload_n 0, 1) := by decide +kernel
theorem dX5_bribes_17 : decode cX5_bribes 17 = .ok (.getfield 13, 3) := by decide +kernel
theorem dX5_bribes_20 : decode cX5_bribes 20 = .ok (.iconst 0, 1) := by decide +kernel
theorem dX5_bribes_21 : decode cX5_bribes 21 = .ok (.iaload, 1) := by decide +kernel
theorem dX5_bribes_22 : decode cX5_bribes 22 = .ok (.ishl, 1) := by decide +kernel
theorem dX5_bribes_23 : decode cX5_bribes 23 = .ok (.iconst 1, 1) := by decide +kernel
theorem dX5_bribes_24 : decode cX5_bribes 24 = .ok (.isub, 1) := by decide +kernel
theorem dX5_bribes_25 : decode cX5_bribes 25 = .ok (.istore_n 2, 1) := by decide +kernel
theorem dX5_bribes_26 : decode cX5_bribes 26 = .ok (.iload_n 2, 1) := by decide +kernel
theorem dX5_bribes_27 : decode cX5_bribes 27 = .ok (.istore_n 3, 1) := by decide +kernel
theorem dX5_bribes_28 : decode cX5_bribes 28 = .ok (.iload_n 3, 1) := by decide +kernel
theorem dX5_bribes_29 : decode cX5_bribes 29 = .ok (.ifCond .lt 46, 3) := by decide +kernel
theorem dX5_bribes_32 : decode cX5_bribes 32 = .ok (.aload_n 0, 1) := by decide +kernel
theorem dX5_bribes_33 : decode cX5_bribes 33 = .ok (.iload_n 3, 1) := by decide +kernel
theorem dX5_bribes_34 : decode cX5_bribes 34 = .ok (.putfield 99, 3) := by decide +kernel
theorem dX5_bribes_37 : decode cX5_bribes 37 = .ok (.aload_n 0, 1) := by decide +kernel
theorem dX5_bribes_38 : decode cX5_bribes 38 = .ok (.iload_n 3, 1) := by decide +kernel
theorem dX5_bribes_39 : decode cX5_bribes 39 = .ok (.invokevirtual 141, 3) := by decide +kernel
theorem dX5_bribes_42 : decode cX5_bribes 42 = .ok (.aload_n 0, 1) := by decide +kernel
theorem dX5_bribes_43 : decode cX5_bribes 43 = .ok (.iload_n 2, 1) := by decide +kernel
theorem dX5_bribes_44 : decode cX5_bribes 44 = .ok (.invokevirtual 141, 3) := by decide +kernel
theorem dX5_bribes_47 : decode cX5_bribes 47 = .ok (.if_icmp .gt 20, 3) := by decide +kernel
theorem dX5_bribes_50 : decode cX5_bribes 50 = .ok (.aload_n 0, 1) := by decide +kernel
theorem dX5_bribes_51 : decode cX5_bribes 51 = .ok (.invokevirtual 126, 3) := by decide +kernel
theorem dX5_bribes_54 : decode cX5_bribes 54 = .ok (.aload_n 0, 1) := by decide +kernel
theorem dX5_bribes_55 : decode cX5_bribes 55 = .ok (.getfield 13, 3) := by decide +kernel
theorem dX5_bribes_58 : decode cX5_bribes 58 = .ok (.iconst 1, 1) := by decide +kernel
theorem dX5_bribes_59 : decode cX5_bribes 59 = .ok (.iaload, 1) := by decide +kernel
theorem dX5_bribes_60 : decode cX5_bribes 60 = .ok (.if_icmp .ne 7, 3) := by decide +kernel
theorem dX5_bribes_63 : decode cX5_bribes 63 = .ok (.iload_n 3, 1) := by decide +kernel
theorem dX5_bribes_64 : decode cX5_bribes 64 = .ok (.goto 4, 3) := by decide +kernel
theorem dX5_bribes_67 : decode cX5_bribes 67 = .ok (.iload_n 2, 1) := by decide +kernel
theorem dX5_bribes_68 : decode cX5_bribes 68 = .ok (.istore_n 2, 1) := by decide +kernel
theorem dX5_bribes_69 : decode cX5_bribes 69 = .ok (.iinc 3 (-1), 3) := by decide +kernel
theorem dX5_bribes_72 : decode cX5_bribes 72 = .ok (.goto (-44), 3) := by decide +kernel
theorem dX5_bribes_75 : decode cX5_bribes 75 = .ok (.iload_n 1, 1) := by decide +kernel
theorem dX5_bribes_76 : decode cX5_bribes 76 = .ok (.ifCond .ne 7, 3) := by decide +kernel
theorem dX5_bribes_79 : decode cX5_bribes 79 = .ok (.iload_n 2, 1) := by decide +kernel
theorem dX5_bribes_80 : decode cX5_bribes 80 = .ok (.goto 8, 3) := by decide +kernel
theorem dX5_bribes_83 : decode cX5_bribes 83 = .ok (.aload_n 0, 1) := by decide +kernel
theorem dX5_bribes_84 : decode cX5_bribes 84 = .ok (.iload_n 2, 1) := by decide +kernel
theorem dX5_bribes_85 : decode cX5_bribes 85 = .ok (.invokevirtual 141, 3) := by decide +kernel
theorem dX5_bribes_88 : decode cX5_bribes 88 = .ok (.ireturn, 1) := by decide +kernel
theorem dX5_rests_0 : decode cX5_rests 0 = .ok (.aload_n 0, 1) := by decide +kernel
theorem dX5_rests_1 : decode cX5_rests 1 = .ok (.invokevirtual 123, 3) := by decide +kernel
theorem dX5_rests_4 : decode cX5_rests 4 = .ok (.aload_n 0, 1) := by decide +kernel
theorem dX5_rests_5 : decode cX5_rests 5 = .ok (.invokevirtual 126, 3) := by decide +kernel
theorem dX5_rests_8 : decode cX5_rests 8 = .ok (.pop, 1) := by decide +kernel
theorem dX5_rests_9 : decode cX5_rests 9 = .ok (.iconst 0, 1) := by decide +kernel
theorem dX5_rests_10 : decode cX5_rests 10 = .ok (.istore_n 1, 1) := by decide +kernel
theorem dX5_rests_11 : decode cX5_rests 11 = .ok (.iconst 0, 1) := by decide +kernel
theorem dX5_rests_12 : decode cX5_rests 12 = .ok (.istore_n 2, 1) := by decide +kernel
theorem dX5_rests_13 : decode cX5_rests 13 = .ok (.iload_n 2, 1) := by decide +kernel
theorem dX5_rests_14 : decode cX5_rests 14 = .ok (.aload_n 0, 1) := by decide +kernel
theorem dX5_rests_15 : decode cX5_rests 15 = .ok (.getfield 13, 3) := by decide +kernel
theorem dX5_rests_18 : decode cX5_rests 18 = .ok (.iconst 1, 1) := by decide +kernel
theorem dX5_rests_19 : decode cX5_rests 19 = .ok (.iaload, 1) := by decide +kernel
theorem dX5_rests_20 : decode cX5_rests 20 = .ok (.if_icmp .ge 33, 3) := by decide +kernel
theorem dX5_rests_23 : decode cX5_rests 23 = .ok (.iload_n 1, 1) := by decide +kernel
theorem dX5_rests_24 : decode cX5_rests 24 = .ok (.aload_n 0, 1) := by decide +kernel
theorem dX5_rests_25 : decode cX5_rests 25 = .ok (.getfield 13, 3) := by decide +kernel
theorem dX5_rests_28 : decode cX5_rests 28 = .ok (.bipush 25, 2) := by decide +kernel
theorem dX5_rests_30 : decode cX5_rests 30 = .ok (.iload_n 2, 1) := by decide +kernel
theorem dX5_rests_31 : decode cX5_rests 31 = .ok (.iadd, 1) := by decide +kernel
theorem dX5_rests_32 : decode cX5_rests 32 = .ok (.iaload, 1) := by decide +kernel
theorem dX5_rests_33 : decode cX5_rests 33 = .ok (.aload_n 0, 1) := by decide +kernel
theorem dX5_rests_34 : decode cX5_rests 34 = .ok (.getfield 40, 3) := by decide +kernel
theorem dX5_rests_37 : decode cX5_rests 37 = .ok (.iload_n 2, 1) := by decide +kernel
theorem dX5_rests_38 : decode cX5_rests 38 = .ok (.iaload, 1) := by decide +kernel
theorem dX5_rests_39 : decode cX5_rests 39 = .ok (.iconst (-1), 1) := by decide +kernel
theorem dX5_rests_40 : decode cX5_rests 40 = .ok (.ixor, 1) := by decide +kernel
theorem dX5_rests_41 : decode cX5_rests 41 = .ok (.iand, 1) := by decide +kernel
theorem dX5_rests_42 : decode cX5_rests 42 = .ok (.invokestatic 117, 3) := by decide +kernel
theorem dX5_rests_45 : decode cX5_rests 45 = .ok (.iadd, 1) := by decide +kernel
theorem dX5_rests_46 : decode cX5_rests 46 = .ok (.istore_n 1, 1) := by decide +kernel
theorem dX5_rests_47 : decode cX5_rests 47 = .ok (.iinc 2 1, 3) := by decide +kernel
theorem dX5_rests_50 : decode cX5_rests 50 = .ok (.goto (-37), 3) := by decide +kernel
theorem dX5_rests_53 : decode cX5_rests 53 = .ok (.iload_n 1, 1) := by decide +kernel
theorem dX5_rests_54 : decode cX5_rests 54 = .ok (.ireturn, 1) := by decide +kernel
theorem dX5_silence_0 : decode cX5_silence 0 = .ok (.aload_n 0, 1) := by decide +kernel
theorem dX5_silence_1 : decode cX5_silence 1 = .ok (.iload_n 1, 1) := by decide +kernel
theorem dX5_silence_2 : decode cX5_silence 2 = .ok (.invokevirtual 120, 3) := by decide +kernel
theorem dX5_silence_5 : decode cX5_silence 5 = .ok (.ifCond .ne 5, 3) := by decide +kernel
theorem dX5_silence_8 : decode cX5_silence 8 = .ok (.iconst (-1), 1) := by decide +kernel
theorem dX5_silence_9 : decode cX5_silence 9 = .ok (.ireturn, 1) := by decide +kernel
theorem dX5_silence_10 : decode cX5_silence 10 = .ok (.aload_n 0, 1) := by decide +kernel
theorem dX5_silence_11 : decode cX5_silence 11 = .ok (.invokevirtual 123, 3) := by decide +kernel
theorem dX5_silence_14 : decode cX5_silence 14 = .ok (.aload_n 0, 1) := by decide +kernel
theorem dX5_silence_15 : decode cX5_silence 15 = .ok (.invokevirtual 126, 3) := by decide +kernel
theorem dX5_silence_18 : decode cX5_silence 18 = .ok (.pop, 1) := by decide +kernel
theorem dX5_silence_19 : decode cX5_silence 19 = .ok (.aload_n 0, 1) := by decide +kernel
theorem dX5_silence_20 : decode cX5_silence 20 = .ok (.getfield 108, 3) := by decide +kernel
theorem dX5_silence_23 : decode cX5_silence 23 = .ok (.istore_n 2, 1) := by decide +kernel
theorem dX5_silence_24 : decode cX5_silence 24 = .ok (.aload_n 0, 1) := by decide +kernel
theorem dX5_silence_25 : decode cX5_silence 25 = .ok (.iconst 1, 1) := by decide +kernel
theorem dX5_silence_26 : decode cX5_silence 26 = .ok (.iload_n 1, 1) := by decide +kernel
theorem dX5_silence_27 : decode cX5_silence 27 = .ok (.ishl, 1) := by decide +kernel
theorem dX5_silence_28 : decode cX5_silence 28 = .ok (.putfield 105, 3) := by decide +kernel
theorem dX5_silence_31 : decode cX5_silence 31 = .ok (.aload_n 0, 1) := by decide +kernel
theorem dX5_silence_32 : decode cX5_silence 32 = .ok (.invokevirtual 126, 3) := by decide +kernel
theorem dX5_silence_35 : decode cX5_silence 35 = .ok (.pop, 1) := by decide +kernel
theorem dX5_silence_36 : decode cX5_silence 36 = .ok (.aload_n 0, 1) := by decide +kernel
theorem dX5_silence_37 : decode cX5_silence 37 = .ok (.iconst 0, 1) := by decide +kernel
theorem dX5_silence_38 : decode cX5_silence 38 = .ok (.putfield 105, 3) := by decide +kernel
theorem dX5_silence_41 : decode cX5_silence 41 = .ok (.iload_n 2, 1) := by decide +kernel
theorem dX5_silence_42 : decode cX5_silence 42 = .ok (.aload_n 0, 1) := by decide +kernel
theorem dX5_silence_43 : decode cX5_silence 43 = .ok (.getfield 108, 3) := by decide +kernel
theorem dX5_silence_46 : decode cX5_silence 46 = .ok (.isub, 1) := by decide +kernel
theorem dX5_silence_47 : decode cX5_silence 47 = .ok (.bipush 100, 2) := by decide +kernel
theorem dX5_silence_49 : decode cX5_silence 49 = .ok (.iadd, 1) := by decide +kernel
theorem dX5_silence_50 : decode cX5_silence 50 = .ok (.ireturn, 1) := by decide +kernel
theorem dX5_alike_0 : decode cX5_alike 0 = .ok (.aload_n 0, 1) := by decide +kernel
theorem dX5_alike_1 : decode cX5_alike 1 = .ok (.invokevirtual 123, 3) := by decide +kernel
theorem dX5_alike_4 : decode cX5_alike 4 = .ok (.aload_n 0, 1) := by decide +kernel
theorem dX5_alike_5 : decode cX5_alike 5 = .ok (.invokevirtual 126, 3) := by decide +kernel
theorem dX5_alike_8 : decode cX5_alike 8 = .ok (.pop, 1) := by decide +kernel
theorem dX5_alike_9 : decode cX5_alike 9 = .ok (.iconst 0, 1) := by decide +kernel
theorem dX5_alike_10 : decode cX5_alike 10 = .ok (.istore_n 1, 1) := by decide +kernel
theorem dX5_alike_11 : decode cX5_alike 11 = .ok (.iload_n 1, 1) := by decide +kernel
theorem dX5_alike_12 : decode cX5_alike 12 = .ok (.aload_n 0, 1) := by decide +kernel
theorem dX5_alike_13 : decode cX5_alike 13 = .ok (.getfield 13, 3) := by decide +kernel
theorem dX5_alike_16 : decode cX5_alike 16 = .ok (.iconst 1, 1) := by decide +kernel
theorem dX5_alike_17 : decode cX5_alike 17 = .ok (.iaload, 1) := by decide +kernel
theorem dX5_alike_18 : decode cX5_alike 18 = .ok (.if_icmp .ge 21, 3) := by decide +kernel
theorem dX5_alike_21 : decode cX5_alike 21 = .ok (.aload_n 0, 1) := by decide +kernel
theorem dX5_alike_22 : decode cX5_alike 22 = .ok (.getfield 43, 3) := by decide +kernel
theorem dX5_alike_25 : decode cX5_alike 25 = .ok (.iload_n 1, 1) := by decide +kernel
theorem dX5_alike_26 : decode cX5_alike 26 = .ok (.aload_n 0, 1) := by decide +kernel
theorem dX5_alike_27 : decode cX5_alike 27 = .ok (.getfield 40, 3) := by decide +kernel
theorem dX5_alike_30 : decode cX5_alike 30 = .ok (.iload_n 1, 1) := by decide +kernel
theorem dX5_alike_31 : decode cX5_alike 31 = .ok (.iaload, 1) := by decide +kernel
theorem dX5_alike_32 : decode cX5_alike 32 = .ok (.iastore, 1) := by decide +kernel
theorem dX5_alike_33 : decode cX5_alike 33 = .ok (.iinc 1 1, 3) := by decide +kernel
theorem dX5_alike_36 : decode cX5_alike 36 = .ok (.goto (-25), 3) := by decide +kernel
theorem dX5_alike_39 : decode cX5_alike 39 = .ok (.aload_n 0, 1) := by decide +kernel
theorem dX5_alike_40 : decode cX5_alike 40 = .ok (.invokevirtual 148, 3) := by decide +kernel
theorem dX5_alike_43 : decode cX5_alike 43 = .ok (.iconst 0, 1) := by decide +kernel
theorem dX5_alike_44 : decode cX5_alike 44 = .ok (.istore_n 1, 1) := by decide +kernel
theorem dX5_alike_45 : decode cX5_alike 45 = .ok (.iconst 1, 1) := by decide +kernel
theorem dX5_alike_46 : decode cX5_alike 46 = .ok (.istore_n 2, 1) := by decide +kernel
theorem dX5_alike_47 : decode cX5_alike 47 = .ok (.iload_n 2, 1) := by decide +kernel
theorem dX5_alike_48 : decode cX5_alike 48 = .ok (.ifCond .eq 77, 3) := by decide +kernel
theorem dX5_alike_51 : decode cX5_alike 51 = .ok (.aload_n 0, 1) := by decide +kernel
theorem dX5_alike_52 : decode cX5_alike 52 = .ok (.invokevirtual 126, 3) := by decide +kernel
theorem dX5_alike_55 : decode cX5_alike 55 = .ok (.pop, 1) := by decide +kernel
theorem dX5_alike_56 : decode cX5_alike 56 = .ok (.iconst 1, 1) := by decide +kernel
theorem dX5_alike_57 : decode cX5_alike 57 = .ok (.istore_n 3, 1) := by decide +kernel
theorem dX5_alike_58 : decode cX5_alike 58 = .ok (.iconst 0, 1) := by decide +kernel
theorem dX5_alike_59 : decode cX5_alike 59 = .ok (.istore 4, 2) := by decide +kernel
theorem dX5_alike_61 : decode cX5_alike 61 = .ok (.iload 4, 2) := by decide +kernel
theorem dX5_alike_63 : decode cX5_alike 63 = .ok (.aload_n 0, 1) := by decide +kernel
theorem dX5_alike_64 : decode cX5_alike 64 = .ok (.getfield 13, 3) := by decide +kernel
theorem dX5_alike_67 : decode cX5_alike 67 = .ok (.iconst 1, 1) := by decide +kernel
theorem dX5_alike_68 : decode cX5_alike 68 = .ok (.iaload, 1) := by decide +kernel
theorem dX5_alike_69 : decode cX5_alike 69 = .ok (.if_icmp .ge 36, 3) := by decide +kernel
theorem dX5_alike_72 : decode cX5_alike 72 = .ok (.iload_n 3, 1) := by decide +kernel
theorem dX5_alike_73 : decode cX5_alike 73 = .ok (.ifCond .eq 24, 3) := by decide +kernel
theorem dX5_alike_76 : decode cX5_alike 76 = .ok (.aload_n 0, 1) := by decide +kernel
theorem dX5_alike_77 : decode cX5_alike 77 = .ok (.getfield 40, 3) := by decide +kernel
theorem dX5_alike_80 : decode cX5_alike 80 = .ok (.iload 4, 2) := by decide +kernel
theorem dX5_alike_82 : decode cX5_alike 82 = .ok (.iaload, 1) := by decide +kernel
theorem dX5_alike_83 : decode cX5_alike 83 = .ok (.aload_n 0, 1) := by decide +kernel
theorem dX5_alike_84 : decode cX5_alike 84 = .ok (.getfield 43, 3) := by decide +kernel
theorem dX5_alike_87 : decode cX5_alike 87 = .ok (.iload 4, 2) := by decide +kernel
theorem dX5_alike_89 : decode cX5_alike 89 = .ok (.iaload, 1) := by decide +kernel
theorem dX5_alike_90 : decode cX5_alike 90 = .ok (.if_icmp .ne 7, 3) := by decide +kernel
theorem dX5_alike_93 : decode cX5_alike 93 = .ok (.iconst 1, 1) := by decide +kernel
theorem dX5_alike_94 : decode cX5_alike 94 = .ok (.goto 4, 3) := by decide +kernel
theorem dX5_alike_97 : decode cX5_alike 97 = .ok (.iconst 0, 1) := by decide +kernel
theorem dX5_alike_98 : decode cX5_alike 98 = .ok (.istore_n 3, 1) := by decide +kernel
theorem dX5_alike_99 : decode cX5_alike 99 = .ok (.iinc 4 1, 3) := by decide +kernel
theorem dX5_alike_102 : decode cX5_alike 102 = .ok (.goto (-41), 3) := by decide +kernel
theorem dX5_alike_105 : decode cX5_alike 105 = .ok (.iload_n 1, 1) := by decide +kernel
theorem dX5_alike_106 : decode cX5_alike 106 = .ok (.iload_n 3, 1) := by decide +kernel
theorem dX5_alike_107 : decode cX5_alike 107 = .ok (.ifCond .eq 7, 3) := by decide +kernel
theorem dX5_alike_110 : decode cX5_alike 110 = .ok (.iconst 1, 1) := by decide +kernel
theorem dX5_alike_111 : decode cX5_alike 111 = .ok (.goto 4, 3) := by decide +kernel
theorem dX5_alike_114 : decode cX5_alike 114 = .ok (.iconst 0, 1) := by decide +kernel
theorem dX5_alike_115 : decode cX5_alike 115 = .ok (.iadd, 1) := by decide +kernel
theorem dX5_alike_116 : decode cX5_alike 116 = .ok (.istore_n 1, 1) := by decide +kernel
theorem dX5_alike_117 : decode cX5_alike 117 = .ok (.aload_n 0, 1) := by decide +kernel
theorem dX5_alike_118 : decode cX5_alike 118 = .ok (.invokevirtual 151, 3) := by decide +kernel
theorem dX5_alike_121 : decode cX5_alike 121 = .ok (.istore_n 2, 1) := by decide +kernel
theorem dX5_alike_122 : decode cX5_alike 122 = .ok (.goto (-75), 3) := by decide +kernel
theorem dX5_alike_125 : decode cX5_alike 125 = .ok (.iload_n 1, 1) := by decide +kernel
theorem dX5_alike_126 : decode cX5_alike 126 = .ok (.ireturn, 1) := by decide +kernel
theorem dX5_share_0 : decode cX5_share 0 = .ok (.aload_n 0, 1) := by decide +kernel
theorem dX5_share_1 : decode cX5_share 1 = .ok (.invokevirtual 123, 3) := by decide +kernel
theorem dX5_share_4 : decode cX5_share 4 = .ok (.aload_n 0, 1) := by decide +kernel
theorem dX5_share_5 : decode cX5_share 5 = .ok (.invokevirtual 148, 3) := by decide +kernel
theorem dX5_share_8 : decode cX5_share 8 = .ok (.iconst 0, 1) := by decide +kernel
theorem dX5_share_9 : decode cX5_share 9 = .ok (.istore_n 3, 1) := by decide +kernel
theorem dX5_share_10 : decode cX5_share 10 = .ok (.iconst 0, 1) := by decide +kernel
theorem dX5_share_11 : decode cX5_share 11 = .ok (.istore 4, 2) := by decide +kernel
theorem dX5_share_13 : decode cX5_share 13 = .ok (.iconst 1, 1) := by decide +kernel
theorem dX5_share_14 : decode cX5_share 14 = .ok (.istore 5, 2) := by decide +kernel
theorem dX5_share_16 : decode cX5_share 16 = .ok (.iload 5, 2) := by decide +kernel
theorem dX5_share_18 : decode cX5_share 18 = .ok (.ifCond .eq 60, 3) := by decide +kernel
theorem dX5_share_21 : decode cX5_share 21 = .ok (.aload_n 0, 1) := by decide +kernel
theorem dX5_share_22 : decode cX5_share 22 = .ok (.invokevirtual 126, 3) := by decide +kernel
theorem dX5_share_25 : decode cX5_share 25 = .ok (.istore 6, 2) := by decide +kernel
theorem dX5_share_27 : decode cX5_share 27 = .ok (.iload_n 3, 1) := by decide +kernel
theorem dX5_share_28 : decode cX5_share 28 = .ok (.iload_n 1, 1) := by decide +kernel
theorem dX5_share_29 : decode cX5_share 29 = .ok (.ifCond .ge 22, 3) := by decide +kernel
theorem dX5_share_32 : decode cX5_share 32 = .ok (.iload 6, 2) := by decide +kernel
theorem dX5_share_34 : decode cX5_share 34 = .ok (.aload_n 0, 1) := by decide +kernel
theorem dX5_share_35 : decode cX5_share 35 = .ok (.getfield 13, 3) := by decide +kernel
theorem dX5_share_38 : decode cX5_share 38 = .ok (.iconst 1, 1) := by decide +kernel
theorem dX5_share_39 : decode cX5_share 39 = .ok (.iaload, 1) := by decide +kernel
theorem dX5_share_40 : decode cX5_share 40 = .ok (.if_icmp .ne 7, 3) := by decide +kernel
theorem dX5_share_43 : decode cX5_share 43 = .ok (.iconst 1, 1) := by decide +kernel
theorem dX5_share_44 : decode cX5_share 44 = .ok (.goto 20, 3) := by decide +kernel
theorem dX5_share_47 : decode cX5_share 47 = .ok (.iconst 0, 1) := by decide +kernel
theorem dX5_share_48 : decode cX5_share 48 = .ok (.goto 16, 3) := by decide +kernel
theorem dX5_share_51 : decode cX5_share 51 = .ok (.aload_n 0, 1) := by decide +kernel
theorem dX5_share_52 : decode cX5_share 52 = .ok (.getfield 108, 3) := by decide +kernel
theorem dX5_share_55 : decode cX5_share 55 = .ok (.iload_n 1, 1) := by decide +kernel
theorem dX5_share_56 : decode cX5_share 56 = .ok (.if_icmp .lt 7, 3) := by decide +kernel
theorem dX5_share_59 : decode cX5_share 59 = .ok (.iconst 1, 1) := by decide +kernel
theorem dX5_share_60 : decode cX5_share 60 = .ok (.goto 4, 3) := by decide +kernel
theorem dX5_share_63 : decode cX5_share 63 = .ok (.iconst 0, 1) := by decide +kernel
theorem dX5_share_64 : decode cX5_share 64 = .ok (.iadd, 1) := by decide +kernel
theorem dX5_share_65 : decode cX5_share 65 = .ok (.istore_n 3, 1) := by decide +kernel
theorem dX5_share_66 : decode cX5_share 66 = .ok (.iinc 4 1, 3) := by decide +kernel
theorem dX5_share_69 : decode cX5_share 69 = .ok (.aload_n 0, 1) := by decide +kernel
theorem dX5_share_70 : decode cX5_share 70 = .ok (.invokevirtual 151, 3) := by decide +kernel
theorem dX5_share_73 : decode cX5_share 73 = .ok (.istore 5, 2) := by decide +kernel
theorem dX5_share_75 : decode cX5_share 75 = .ok (.goto (-59), 3) := by decide +kernel
theorem dX5_share_78 : decode cX5_share 78 = .ok (.iload_n 3, 1) := by decide +kernel
theorem dX5_share_79 : decode cX5_share 79 = .ok (.istore 6, 2) := by decide +kernel
theorem dX5_share_81 : decode cX5_share 81 = .ok (.iload 4, 2) := by decide +kernel
theorem dX5_share_83 : decode cX5_share 83 = .ok (.istore 7, 2) := by decide +kernel
theorem dX5_share_85 : decode cX5_share 85 = .ok (.iload 7, 2) := by decide +kernel
theorem dX5_share_87 : decode cX5_share 87 = .ok (.ifCond .le 21, 3) := by decide +kernel
theorem dX5_share_90 : decode cX5_share 90 = .ok (.iload 6, 2) := by decide +kernel
theorem dX5_share_92 : decode cX5_share 92 = .ok (.iload 7, 2) := by decide +kernel
theorem dX5_share_94 : decode cX5_share 94 = .ok (.irem, 1) := by decide +kernel
theorem dX5_share_95 : decode cX5_share 95 = .ok (.istore 8, 2) := by decide +kernel
theorem dX5_share_97 : decode cX5_share 97 = .ok (.iload 7, 2) := by decide +kernel
theorem dX5_share_99 : decode cX5_share 99 = .ok (.istore 6, 2) := by decide +kernel
theorem dX5_share_101 : decode cX5_share 101 = .ok (.iload 8, 2) := by decide +kernel
theorem dX5_share_103 : decode cX5_share 103 = .ok (.istore 7, 2) := by decide +kernel
theorem dX5_share_105 : decode cX5_share 105 = .ok (.goto (-20), 3) := by decide +kernel
theorem dX5_share_108 : decode cX5_share 108 = .ok (.iload_n 2, 1) := by decide +kernel
theorem dX5_share_109 : decode cX5_share 109 = .ok (.ifCond .ne 10, 3) := by decide +kernel
theorem dX5_share_112 : decode cX5_share 112 = .ok (.iload_n 3, 1) := by decide +kernel
theorem dX5_share_113 : decode cX5_share 113 = .ok (.iload 6, 2) := by decide +kernel
theorem dX5_share_115 : decode cX5_share 115 = .ok (.idiv, 1) := by decide +kernel
theorem dX5_share_116 : decode cX5_share 116 = .ok (.goto 8, 3) := by decide +kernel
theorem dX5_share_119 : decode cX5_share 119 = .ok (.iload 4, 2) := by decide +kernel
theorem dX5_share_121 : decode cX5_share 121 = .ok (.iload 6, 2) := by decide +kernel
theorem dX5_share_123 : decode cX5_share 123 = .ok (.idiv, 1) := by decide +kernel
theorem dX5_share_124 : decode cX5_share 124 = .ok (.ireturn, 1) := by decide +kernel
theorem dX5_odds_0 : decode cX5_odds 0 = .ok (.iload_n 1, 1) := by decide +kernel
theorem dX5_odds_1 : decode cX5_odds 1 = .ok (.iconst 0, 1) := by decide +kernel
theorem dX5_odds_2 : decode cX5_odds 2 = .ok (.iconst 1, 1) := by decide +kernel
theorem dX5_odds_3 : decode cX5_odds 3 = .ok (.invokestatic 60, 3) := by decide +kernel
theorem dX5_odds_6 : decode cX5_odds 6 = .ok (.ifCond .eq 12, 3) := by decide +kernel
theorem dX5_odds_9 : decode cX5_odds 9 = .ok (.aload_n 0, 1) := by decide +kernel
theorem dX5_odds_10 : decode cX5_odds 10 = .ok (.iconst (-1), 1) := by decide +kernel
theorem dX5_odds_11 : decode cX5_odds 11 = .ok (.iload_n 1, 1) := by decide +kernel
theorem dX5_odds_12 : decode cX5_odds 12 = .ok (.invokevirtual 158, 3) := by decide +kernel
theorem dX5_odds_15 : decode cX5_odds 15 = .ok (.goto 4, 3) := by decide +kernel
theorem dX5_odds_18 : decode cX5_odds 18 = .ok (.iconst (-1), 1) := by decide +kernel
theorem dX5_odds_19 : decode cX5_odds 19 = .ok (.ireturn, 1) := by decide +kernel
theorem dX5_atLeast_0 : decode cX5_atLeast 0 = .ok (.iload_n 1, 1) := by decide +kernel
theorem dX5_atLeast_1 : decode cX5_atLeast 1 = .ok (.iconst 0, 1) := by decide +kernel
theorem dX5_atLeast_2 : decode cX5_atLeast 2 = .ok (.bipush 56, 2) := by decide +kernel
theorem dX5_atLeast_4 : decode cX5_atLeast 4 = .ok (.invokestatic 60, 3) := by decide +kernel
theorem dX5_atLeast_7 : decode cX5_atLeast 7 = .ok (.ifCond .eq 21, 3) := by decide +kernel
theorem dX5_atLeast_10 : decode cX5_atLeast 10 = .ok (.iload_n 2, 1) := by decide +kernel
theorem dX5_atLeast_11 : decode cX5_atLeast 11 = .ok (.iconst 0, 1) := by decide +kernel
theorem dX5_atLeast_12 : decode cX5_atLeast 12 = .ok (.iconst 1, 1) := by decide +kernel
theorem dX5_atLeast_13 : decode cX5_atLeast 13 = .ok (.invokestatic 60, 3) := by decide +kernel
theorem dX5_atLeast_16 : decode cX5_atLeast 16 = .ok (.ifCond .eq 12, 3) := by decide +kernel
theorem dX5_atLeast_19 : decode cX5_atLeast 19 = .ok (.aload_n 0, 1) := by decide +kernel
theorem dX5_atLeast_20 : decode cX5_atLeast 20 = .ok (.iload_n 1, 1) := by decide +kernel
theorem dX5_atLeast_21 : decode cX5_atLeast 21 = .ok (.iload_n 2, 1) := by decide +kernel
theorem dX5_atLeast_22 : decode cX5_atLeast 22 = .ok (.invokevirtual 158, 3) := by decide +kernel
theorem dX5_atLeast_25 : decode cX5_atLeast 25 = .ok (.goto 4, 3) := by decide +kernel
theorem dX5_atLeast_28 : decode cX5_atLeast 28 = .ok (.iconst (-1), 1) := by decide +kernel
theorem dX5_atLeast_29 : decode cX5_atLeast 29 = .ok (.ireturn, 1) := by decide +kernel
theorem dX5_heard_0 : decode cX5_heard 0 = .ok (.aload_n 0, 1) := by decide +kernel
theorem dX5_heard_1 : decode cX5_heard 1 = .ok (.iload_n 1, 1) := by decide +kernel
theorem dX5_heard_2 : decode cX5_heard 2 = .ok (.invokevirtual 120, 3) := by decide +kernel
theorem dX5_heard_5 : decode cX5_heard 5 = .ok (.ifCond .eq 20, 3) := by decide +kernel
theorem dX5_heard_8 : decode cX5_heard 8 = .ok (.aload_n 0, 1) := by decide +kernel
theorem dX5_heard_9 : decode cX5_heard 9 = .ok (.iload_n 2, 1) := by decide +kernel
theorem dX5_heard_10 : decode cX5_heard 10 = .ok (.invokevirtual 132, 3) := by decide +kernel
theorem dX5_heard_13 : decode cX5_heard 13 = .ok (.ifCond .eq 12, 3) := by decide +kernel
theorem dX5_heard_16 : decode cX5_heard 16 = .ok (.iload_n 3, 1) := by decide +kernel
theorem dX5_heard_17 : decode cX5_heard 17 = .ok (.iconst 0, 1) := by decide +kernel
theorem dX5_heard_18 : decode cX5_heard 18 = .ok (.iconst 1, 1) := by decide +kernel
theorem dX5_heard_19 : decode cX5_heard 19 = .ok (.invokestatic 60, 3) := by decide +kernel
theorem dX5_heard_22 : decode cX5_heard 22 = .ok (.ifCond .ne 5, 3) := by decide +kernel
theorem dX5_heard_25 : decode cX5_heard 25 = .ok (.iconst (-1), 1) := by decide +kernel
theorem dX5_heard_26 : decode cX5_heard 26 = .ok (.ireturn, 1) := by decide +kernel
theorem dX5_heard_27 : decode cX5_heard 27 = .ok (.aload_n 0, 1) := by decide +kernel
theorem dX5_heard_28 : decode cX5_heard 28 = .ok (.getfield 96, 3) := by decide +kernel
theorem dX5_heard_31 : decode cX5_heard 31 = .ok (.bipush 8, 2) := by decide +kernel
theorem dX5_heard_33 : decode cX5_heard 33 = .ok (.if_icmp .ne 6, 3) := by decide +kernel
theorem dX5_heard_36 : decode cX5_heard 36 = .ok (.bipush (-3), 2) := by decide +kernel
theorem dX5_heard_38 : decode cX5_heard 38 = .ok (.ireturn, 1) := by decide +kernel
theorem dX5_heard_39 : decode cX5_heard 39 = .ok (.aload_n 0, 1) := by decide +kernel
theorem dX5_heard_40 : decode cX5_heard 40 = .ok (.getfield 28, 3) := by decide +kernel
theorem dX5_heard_43 : decode cX5_heard 43 = .ok (.aload_n 0, 1) := by decide +kernel
theorem dX5_heard_44 : decode cX5_heard 44 = .ok (.getfield 96, 3) := by decide +kernel
theorem dX5_heard_47 : decode cX5_heard 47 = .ok (.bipush 100, 2) := by decide +kernel
theorem dX5_heard_49 : decode cX5_heard 49 = .ok (.iload_n 1, 1) := by decide +kernel
theorem dX5_heard_50 : decode cX5_heard 50 = .ok (.imul, 1) := by decide +kernel
theorem dX5_heard_51 : decode cX5_heard 51 = .ok (.bipush 10, 2) := by decide +kernel
theorem dX5_heard_53 : decode cX5_heard 53 = .ok (.iload_n 2, 1) := by decide +kernel
theorem dX5_heard_54 : decode cX5_heard 54 = .ok (.imul, 1) := by decide +kernel
theorem dX5_heard_55 : decode cX5_heard 55 = .ok (.iadd, 1) := by decide +kernel
theorem dX5_heard_56 : decode cX5_heard 56 = .ok (.iload_n 3, 1) := by decide +kernel
theorem dX5_heard_57 : decode cX5_heard 57 = .ok (.iadd, 1) := by decide +kernel
theorem dX5_heard_58 : decode cX5_heard 58 = .ok (.iastore, 1) := by decide +kernel
theorem dX5_heard_59 : decode cX5_heard 59 = .ok (.aload_n 0, 1) := by decide +kernel
theorem dX5_heard_60 : decode cX5_heard 60 = .ok (.dup, 1) := by decide +kernel
theorem dX5_heard_61 : decode cX5_heard 61 = .ok (.getfield 96, 3) := by decide +kernel
theorem dX5_heard_64 : decode cX5_heard 64 = .ok (.iconst 1, 1) := by decide +kernel
theorem dX5_heard_65 : decode cX5_heard 65 = .ok (.iadd, 1) := by decide +kernel
theorem dX5_heard_66 : decode cX5_heard 66 = .ok (.putfield 96, 3) := by decide +kernel
theorem dX5_heard_69 : decode cX5_heard 69 = .ok (.aload_n 0, 1) := by decide +kernel
theorem dX5_heard_70 : decode cX5_heard 70 = .ok (.getfield 96, 3) := by decide +kernel
theorem dX5_heard_73 : decode cX5_heard 73 = .ok (.ireturn, 1) := by decide +kernel
theorem dX5_forget_0 : decode cX5_forget 0 = .ok (.aload_n 0, 1) := by decide +kernel
theorem dX5_forget_1 : decode cX5_forget 1 = .ok (.getfield 96, 3) := by decide +kernel
theorem dX5_forget_4 : decode cX5_forget 4 = .ok (.istore_n 1, 1) := by decide +kernel
theorem dX5_forget_5 : decode cX5_forget 5 = .ok (.aload_n 0, 1) := by decide +kernel
theorem dX5_forget_6 : decode cX5_forget 6 = .ok (.iconst 0, 1) := by decide +kernel
theorem dX5_forget_7 : decode cX5_forget 7 = .ok (.putfield 96, 3) := by decide +kernel
theorem dX5_forget_10 : decode cX5_forget 10 = .ok (.iload_n 1, 1) := by decide +kernel
theorem dX5_forget_11 : decode cX5_forget 11 = .ok (.ireturn, 1) := by decide +kernel
theorem dX5_kinds_0 : decode cX5_kinds 0 = .ok (.aload_n 0, 1) := by decide +kernel
theorem dX5_kinds_1 : decode cX5_kinds 1 = .ok (.iload_n 1, 1) := by decide +kernel
theorem dX5_kinds_2 : decode cX5_kinds 2 = .ok (.invokevirtual 120, 3) := by decide +kernel
theorem dX5_kinds_5 : decode cX5_kinds 5 = .ok (.ifCond .ne 5, 3) := by decide +kernel
theorem dX5_kinds_8 : decode cX5_kinds 8 = .ok (.iconst (-1), 1) := by decide +kernel
theorem dX5_kinds_9 : decode cX5_kinds 9 = .ok (.ireturn, 1) := by decide +kernel
theorem dX5_kinds_10 : decode cX5_kinds 10 = .ok (.aload_n 0, 1) := by decide +kernel
theorem dX5_kinds_11 : decode cX5_kinds 11 = .ok (.invokevirtual 123, 3) := by decide +kernel
theorem dX5_kinds_14 : decode cX5_kinds 14 = .ok (.aload_n 0, 1) := by decide +kernel
theorem dX5_kinds_15 : decode cX5_kinds 15 = .ok (.dup, 1) := by decide +kernel
theorem dX5_kinds_16 : decode cX5_kinds 16 = .ok (.getfield 99, 3) := by decide +kernel
theorem dX5_kinds_19 : decode cX5_kinds 19 = .ok (.iconst 1, 1) := by decide +kernel
theorem dX5_kinds_20 : decode cX5_kinds 20 = .ok (.iload_n 1, 1) := by decide +kernel
theorem dX5_kinds_21 : decode cX5_kinds 21 = .ok (.ishl, 1) := by decide +kernel
theorem dX5_kinds_22 : decode cX5_kinds 22 = .ok (.iconst (-1), 1) := by decide +kernel
theorem dX5_kinds_23 : decode cX5_kinds 23 = .ok (.ixor, 1) := by decide +kernel
theorem dX5_kinds_24 : decode cX5_kinds 24 = .ok (.iand, 1) := by decide +kernel
theorem dX5_kinds_25 : decode cX5_kinds 25 = .ok (.putfield 99, 3) := by decide +kernel
theorem dX5_kinds_28 : decode cX5_kinds 28 = .ok (.iconst 0, 1) := by decide +kernel
theorem dX5_kinds_29 : decode cX5_kinds 29 = .ok (.istore_n 2, 1) := by decide +kernel
theorem dX5_kinds_30 : decode cX5_kinds 30 = .ok (.iconst 0, 1) := by decide +kernel
theorem dX5_kinds_31 : decode cX5_kinds 31 = .ok (.istore_n 3, 1) := by decide +kernel
theorem dX5_kinds_32 : decode cX5_kinds 32 = .ok (.iload_n 3, 1) := by decide +kernel
theorem dX5_kinds_33 : decode cX5_kinds 33 = .ok (.iconst 4, 1) := by decide +kernel
theorem dX5_kinds_34 : decode cX5_kinds 34 = .ok (.if_icmp .ge 118, 3) := by decide +kernel
theorem dX5_kinds_37 : decode cX5_kinds 37 = .ok (.aload_n 0, 1) := by decide +kernel
theorem dX5_kinds_38 : decode cX5_kinds 38 = .ok (.getfield 37, 3) := by decide +kernel
theorem dX5_kinds_41 : decode cX5_kinds 41 = .ok (.iload_n 1, 1) := by decide +kernel
theorem dX5_kinds_42 : decode cX5_kinds 42 = .ok (.iload_n 3, 1) := by decide +kernel
theorem dX5_kinds_43 : decode cX5_kinds 43 = .ok (.iastore, 1) := by decide +kernel
theorem dX5_kinds_44 : decode cX5_kinds 44 = .ok (.aload_n 0, 1) := by decide +kernel
theorem dX5_kinds_45 : decode cX5_kinds 45 = .ok (.invokevirtual 126, 3) := by decide +kernel
theorem dX5_kinds_48 : decode cX5_kinds 48 = .ok (.pop, 1) := by decide +kernel
theorem dX5_kinds_49 : decode cX5_kinds 49 = .ok (.iconst 1, 1) := by decide +kernel
theorem dX5_kinds_50 : decode cX5_kinds 50 = .ok (.istore 4, 2) := by decide +kernel
theorem dX5_kinds_52 : decode cX5_kinds 52 = .ok (.iconst 0, 1) := by decide +kernel
theorem dX5_kinds_53 : decode cX5_kinds 53 = .ok (.istore 5, 2) := by decide +kernel
theorem dX5_kinds_55 : decode cX5_kinds 55 = .ok (.iload 5, 2) := by decide +kernel
theorem dX5_kinds_57 : decode cX5_kinds 57 = .ok (.aload_n 0, 1) := by decide +kernel
theorem dX5_kinds_58 : decode cX5_kinds 58 = .ok (.getfield 96, 3) := by decide +kernel
theorem dX5_kinds_61 : decode cX5_kinds 61 = .ok (.if_icmp .ge 70, 3) := by decide +kernel
theorem dX5_kinds_64 : decode cX5_kinds 64 = .ok (.iload 4, 2) := by decide +kernel
theorem dX5_kinds_66 : decode cX5_kinds 66 = .ok (.ifCond .eq 56, 3) := by decide +kernel
theorem dX5_kinds_69 : decode cX5_kinds 69 = .ok (.aload_n 0, 1) := by decide +kernel
theorem dX5_kinds_70 : decode cX5_kinds 70 = .ok (.getfield 28, 3) := by decide +kernel
theorem dX5_kinds_73 : decode cX5_kinds 73 = .ok (.iload 5, 2) := by decide +kernel
theorem dX5_kinds_75 : decode cX5_kinds 75 = .ok (.iaload, 1) := by decide +kernel
theorem dX5_kinds_76 : decode cX5_kinds 76 = .ok (.bipush 100, 2) := by decide +kernel
theorem dX5_kinds_78 : decode cX5_kinds 78 = .ok (.idiv, 1) := by decide +kernel
theorem dX5_kinds_79 : decode cX5_kinds 79 = .ok (.iload_n 1, 1) := by decide +kernel
theorem dX5_kinds_80 : decode cX5_kinds 80 = .ok (.if_icmp .ne 38, 3) := by decide +kernel
theorem dX5_kinds_83 : decode cX5_kinds 83 = .ok (.aload_n 0, 1) := by decide +kernel
theorem dX5_kinds_84 : decode cX5_kinds 84 = .ok (.getfield 40, 3) := by decide +kernel
theorem dX5_kinds_87 : decode cX5_kinds 87 = .ok (.aload_n 0, 1) := by decide +kernel
theorem dX5_kinds_88 : decode cX5_kinds 88 = .ok (.getfield 28, 3) := by decide +kernel
theorem dX5_kinds_91 : decode cX5_kinds 91 = .ok (.iload 5, 2) := by decide +kernel
theorem dX5_kinds_93 : decode cX5_kinds 93 = .ok (.iaload, 1) := by decide +kernel
theorem dX5_kinds_94 : decode cX5_kinds 94 = .ok (.bipush 10, 2) := by decide +kernel
theorem dX5_kinds_96 : decode cX5_kinds 96 = .ok (.idiv, 1) := by decide +kernel
theorem dX5_kinds_97 : decode cX5_kinds 97 = .ok (.bipush 10, 2) := by decide +kernel
theorem dX5_kinds_99 : decode cX5_kinds 99 = .ok (.irem, 1) := by decide +kernel
theorem dX5_kinds_100 : decode cX5_kinds 100 = .ok (.iaload, 1) := by decide +kernel
theorem dX5_kinds_101 : decode cX5_kinds 101 = .ok (.iload_n 1, 1) := by decide +kernel
theorem dX5_kinds_102 : decode cX5_kinds 102 = .ok (.ishr, 1) := by decide +kernel
theorem dX5_kinds_103 : decode cX5_kinds 103 = .ok (.iconst 1, 1) := by decide +kernel
theorem dX5_kinds_104 : decode cX5_kinds 104 = .ok (.iand, 1) := by decide +kernel
theorem dX5_kinds_105 : decode cX5_kinds 105 = .ok (.aload_n 0, 1) := by decide +kernel
theorem dX5_kinds_106 : decode cX5_kinds 106 = .ok (.getfield 28, 3) := by decide +kernel
theorem dX5_kinds_109 : decode cX5_kinds 109 = .ok (.iload 5, 2) := by decide +kernel
theorem dX5_kinds_111 : decode cX5_kinds 111 = .ok (.iaload, 1) := by decide +kernel
theorem dX5_kinds_112 : decode cX5_kinds 112 = .ok (.bipush 10, 2) := by decide +kernel
theorem dX5_kinds_114 : decode cX5_kinds 114 = .ok (.irem, 1) := by decide +kernel
theorem dX5_kinds_115 : decode cX5_kinds 115 = .ok (.if_icmp .ne 7, 3) := by decide +kernel
theorem dX5_kinds_118 : decode cX5_kinds 118 = .ok (.iconst 1, 1) := by decide +kernel
theorem dX5_kinds_119 : decode cX5_kinds 119 = .ok (.goto 4, 3) := by decide +kernel
theorem dX5_kinds_122 : decode cX5_kinds 122 = .ok (.iconst 0, 1) := by decide +kernel
theorem dX5_kinds_123 : decode cX5_kinds 123 = .ok (.istore 4, 2) := by decide +kernel
theorem dX5_kinds_125 : decode cX5_kinds 125 = .ok (.iinc 5 1, 3) := by decide +kernel
theorem dX5_kinds_128 : decode cX5_kinds 128 = .ok (.goto (-73), 3) := by decide +kernel
theorem dX5_kinds_131 : decode cX5_kinds 131 = .ok (.iload_n 2, 1) := by decide +kernel
theorem dX5_kinds_132 : decode cX5_kinds 132 = .ok (.iload 4, 2) := by decide +kernel
theorem dX5_kinds_134 : decode cX5_kinds 134 = .ok (.ifCond .eq 9, 3) := by decide +kernel
theorem dX5_kinds_137 : decode cX5_kinds 137 = .ok (.iconst 1, 1) := by decide +kernel
theorem dX5_kinds_138 : decode cX5_kinds 138 = .ok (.iload_n 3, 1) := by decide +kernel
theorem dX5_kinds_139 : decode cX5_kinds 139 = .ok (.ishl, 1) := by decide +kernel
theorem dX5_kinds_140 : decode cX5_kinds 140 = .ok (.goto 4, 3) := by decide +kernel
theorem dX5_kinds_143 : decode cX5_kinds 143 = .ok (.iconst 0, 1) := by decide +kernel
theorem dX5_kinds_144 : decode cX5_kinds 144 = .ok (.ior, 1) := by decide +kernel
theorem dX5_kinds_145 : decode cX5_kinds 145 = .ok (.istore_n 2, 1) := by decide +kernel
theorem dX5_kinds_146 : decode cX5_kinds 146 = .ok (.iinc 3 1, 3) := by decide +kernel
theorem dX5_kinds_149 : decode cX5_kinds 149 = .ok (.goto (-117), 3) := by decide +kernel
theorem dX5_kinds_152 : decode cX5_kinds 152 = .ok (.iload_n 2, 1) := by decide +kernel
theorem dX5_kinds_153 : decode cX5_kinds 153 = .ok (.ireturn, 1) := by decide +kernel
theorem dX5_hall_0 : decode cX5_hall 0 = .ok (.iload_n 1, 1) := by decide +kernel
theorem dX5_hall_1 : decode cX5_hall 1 = .ok (.iconst 0, 1) := by decide +kernel
theorem dX5_hall_2 : decode cX5_hall 2 = .ok (.aload_n 0, 1) := by decide +kernel
theorem dX5_hall_3 : decode cX5_hall 3 = .ok (.getfield 13, 3) := by decide +kernel
theorem dX5_hall_6 : decode cX5_hall 6 = .ok (.iconst 0, 1) := by decide +kernel
theorem dX5_hall_7 : decode cX5_hall 7 = .ok (.iaload, 1) := by decide +kernel
theorem dX5_hall_8 : decode cX5_hall 8 = .ok (.iconst 2, 1) := by decide +kernel
theorem dX5_hall_9 : decode cX5_hall 9 = .ok (.isub, 1) := by decide +kernel
theorem dX5_hall_10 : decode cX5_hall 10 = .ok (.invokestatic 60, 3) := by decide +kernel
theorem dX5_hall_13 : decode cX5_hall 13 = .ok (.ifCond .ne 11, 3) := by decide +kernel
theorem dX5_hall_16 : decode cX5_hall 16 = .ok (.iload_n 1, 1) := by decide +kernel
theorem dX5_hall_17 : decode cX5_hall 17 = .ok (.bipush 9, 2) := by decide +kernel
theorem dX5_hall_19 : decode cX5_hall 19 = .ok (.if_icmp .eq 5, 3) := by decide +kernel
theorem dX5_hall_22 : decode cX5_hall 22 = .ok (.iconst (-1), 1) := by decide +kernel
theorem dX5_hall_23 : decode cX5_hall 23 = .ok (.ireturn, 1) := by decide +kernel
theorem dX5_hall_24 : decode cX5_hall 24 = .ok (.aload_n 0, 1) := by decide +kernel
theorem dX5_hall_25 : decode cX5_hall 25 = .ok (.invokevirtual 123, 3) := by decide +kernel
theorem dX5_hall_28 : decode cX5_hall 28 = .ok (.aload_n 0, 1) := by decide +kernel
theorem dX5_hall_29 : decode cX5_hall 29 = .ok (.iload_n 1, 1) := by decide +kernel
theorem dX5_hall_30 : decode cX5_hall 30 = .ok (.bipush 9, 2) := by decide +kernel
theorem dX5_hall_32 : decode cX5_hall 32 = .ok (.if_icmp .ne 7, 3) := by decide +kernel
theorem dX5_hall_35 : decode cX5_hall 35 = .ok (.iconst 0, 1) := by decide +kernel
theorem dX5_hall_36 : decode cX5_hall 36 = .ok (.goto 6, 3) := by decide +kernel
theorem dX5_hall_39 : decode cX5_hall 39 = .ok (.iconst 1, 1) := by decide +kernel
theorem dX5_hall_40 : decode cX5_hall 40 = .ok (.iload_n 1, 1) := by decide +kernel
theorem dX5_hall_41 : decode cX5_hall 41 = .ok (.ishl, 1) := by decide +kernel
theorem dX5_hall_42 : decode cX5_hall 42 = .ok (.putfield 102, 3) := by decide +kernel
theorem dX5_hall_45 : decode cX5_hall 45 = .ok (.aload_n 0, 1) := by decide +kernel
theorem dX5_hall_46 : decode cX5_hall 46 = .ok (.invokevirtual 126, 3) := by decide +kernel
theorem dX5_hall_49 : decode cX5_hall 49 = .ok (.pop, 1) := by decide +kernel
theorem dX5_hall_50 : decode cX5_hall 50 = .ok (.aload_n 0, 1) := by decide +kernel
theorem dX5_hall_51 : decode cX5_hall 51 = .ok (.getfield 108, 3) := by decide +kernel
theorem dX5_hall_54 : decode cX5_hall 54 = .ok (.ireturn, 1) := by decide +kernel
theorem dX5_tour_0 : decode cX5_tour 0 = .ok (.iload_n 1, 1) := by decide +kernel
theorem dX5_tour_1 : decode cX5_tour 1 = .ok (.iconst 0, 1) := by decide +kernel
theorem dX5_tour_2 : decode cX5_tour 2 = .ok (.sipush 9999, 3) := by decide +kernel
theorem dX5_tour_5 : decode cX5_tour 5 = .ok (.invokestatic 60, 3) := by decide +kernel
theorem dX5_tour_8 : decode cX5_tour 8 = .ok (.ifCond .eq 22, 3) := by decide +kernel
theorem dX5_tour_11 : decode cX5_tour 11 = .ok (.iload_n 2, 1) := by decide +kernel
theorem dX5_tour_12 : decode cX5_tour 12 = .ok (.iconst 1, 1) := by decide +kernel
theorem dX5_tour_13 : decode cX5_tour 13 = .ok (.bipush 20, 2) := by decide +kernel
theorem dX5_tour_15 : decode cX5_tour 15 = .ok (.invokestatic 60, 3) := by decide +kernel
theorem dX5_tour_18 : decode cX5_tour 18 = .ok (.ifCond .eq 12, 3) := by decide +kernel
theorem dX5_tour_21 : decode cX5_tour 21 = .ok (.iload_n 3, 1) := by decide +kernel
theorem dX5_tour_22 : decode cX5_tour 22 = .ok (.iconst 0, 1) := by decide +kernel
theorem dX5_tour_23 : decode cX5_tour 23 = .ok (.iconst 1, 1) := by decide +kernel
theorem dX5_tour_24 : decode cX5_tour 24 = .ok (.invokestatic 60, 3) := by decide +kernel
theorem dX5_tour_27 : decode cX5_tour 27 = .ok (.ifCond .ne 5, 3) := by decide +kernel
theorem dX5_tour_30 : decode cX5_tour 30 = .ok (.iconst (-1), 1) := by decide +kernel
theorem dX5_tour_31 : decode cX5_tour 31 = .ok (.ireturn, 1) := by decide +kernel
theorem dX5_tour_32 : decode cX5_tour 32 = .ok (.aload_n 0, 1) := by decide +kernel
theorem dX5_tour_33 : decode cX5_tour 33 = .ok (.invokevirtual 123, 3) := by decide +kernel
theorem dX5_tour_36 : decode cX5_tour 36 = .ok (.iconst 0, 1) := by decide +kernel
theorem dX5_tour_37 : decode cX5_tour 37 = .ok (.istore 4, 2) := by decide +kernel
theorem dX5_tour_39 : decode cX5_tour 39 = .ok (.iconst 0, 1) := by decide +kernel
theorem dX5_tour_40 : decode cX5_tour 40 = .ok (.istore 5, 2) := by decide +kernel
theorem dX5_tour_42 : decode cX5_tour 42 = .ok (.iconst 0, 1) := by decide +kernel
theorem dX5_tour_43 : decode cX5_tour 43 = .ok (.istore 6, 2) := by decide +kernel
theorem dX5_tour_45 : decode cX5_tour 45 = .ok (.iload 6, 2) := by decide +kernel
theorem dX5_tour_47 : decode cX5_tour 47 = .ok (.iload_n 2, 1) := by decide +kernel
theorem dX5_tour_48 : decode cX5_tour 48 = .ok (.if_icmp .ge 109, 3) := by decide +kernel
theorem dX5_tour_51 : decode cX5_tour 51 = .ok (.ldc2_w 161, 3) := by decide +kernel
theorem dX5_tour_54 : decode cX5_tour 54 = .ok (.iload_n 1, 1) := by decide +kernel
theorem dX5_tour_55 : decode cX5_tour 55 = .ok (.i2l, 1) := by decide +kernel
theorem dX5_tour_56 : decode cX5_tour 56 = .ok (.lmul, 1) := by decide +kernel
theorem dX5_tour_57 : decode cX5_tour 57 = .ok (.ldc2_w 163, 3) := by decide +kernel
theorem dX5_tour_60 : decode cX5_tour 60 = .ok (.iload 6, 2) := by decide +kernel
theorem dX5_tour_62 : decode cX5_tour 62 = .ok (.i2l, 1) := by decide +kernel
theorem dX5_tour_63 : decode cX5_tour 63 = .ok (.lmul, 1) := by decide +kernel
theorem dX5_tour_64 : decode cX5_tour 64 = .ok (.ladd, 1) := by decide +kernel
theorem dX5_tour_65 : decode cX5_tour 65 = .ok (.lconst 1, 1) := by decide +kernel
theorem dX5_tour_66 : decode cX5_tour 66 = .ok (.ladd, 1) := by decide +kernel
theorem dX5_tour_67 : decode cX5_tour 67 = .ok (.lstore 7, 2) := by decide +kernel
theorem dX5_tour_69 : decode cX5_tour 69 = .ok (.lload 7, 2) := by decide +kernel
theorem dX5_tour_71 : decode cX5_tour 71 = .ok (.lload 7, 2) := by decide +kernel
theorem dX5_tour_73 : decode cX5_tour 73 = .ok (.lmul, 1) := by decide +kernel
theorem dX5_tour_74 : decode cX5_tour 74 = .ok (.ldc2_w 165, 3) := by decide +kernel
theorem dX5_tour_77 : decode cX5_tour 77 = .ok (.lrem, 1) := by decide +kernel
theorem dX5_tour_78 : decode cX5_tour 78 = .ok (.l2i, 1) := by decide +kernel
theorem dX5_tour_79 : decode cX5_tour 79 = .ok (.iconst 4, 1) := by decide +kernel
theorem dX5_tour_80 : decode cX5_tour 80 = .ok (.idiv, 1) := by decide +kernel
theorem dX5_tour_81 : decode cX5_tour 81 = .ok (.istore 9, 2) := by decide +kernel
theorem dX5_tour_83 : decode cX5_tour 83 = .ok (.aload_n 0, 1) := by decide +kernel
theorem dX5_tour_84 : decode cX5_tour 84 = .ok (.iload 9, 2) := by decide +kernel
theorem dX5_tour_86 : decode cX5_tour 86 = .ok (.aload_n 0, 1) := by decide +kernel
theorem dX5_tour_87 : decode cX5_tour 87 = .ok (.getfield 13, 3) := by decide +kernel
theorem dX5_tour_90 : decode cX5_tour 90 = .ok (.iconst 0, 1) := by decide +kernel
theorem dX5_tour_91 : decode cX5_tour 91 = .ok (.iaload, 1) := by decide +kernel
theorem dX5_tour_92 : decode cX5_tour 92 = .ok (.irem, 1) := by decide +kernel
theorem dX5_tour_93 : decode cX5_tour 93 = .ok (.iload 9, 2) := by decide +kernel
theorem dX5_tour_95 : decode cX5_tour 95 = .ok (.bipush 8, 2) := by decide +kernel
theorem dX5_tour_97 : decode cX5_tour 97 = .ok (.idiv, 1) := by decide +kernel
theorem dX5_tour_98 : decode cX5_tour 98 = .ok (.aload_n 0, 1) := by decide +kernel
theorem dX5_tour_99 : decode cX5_tour 99 = .ok (.getfield 13, 3) := by decide +kernel
theorem dX5_tour_102 : decode cX5_tour 102 = .ok (.iconst 0, 1) := by decide +kernel
theorem dX5_tour_103 : decode cX5_tour 103 = .ok (.iaload, 1) := by decide +kernel
theorem dX5_tour_104 : decode cX5_tour 104 = .ok (.irem, 1) := by decide +kernel
theorem dX5_tour_105 : decode cX5_tour 105 = .ok (.invokevirtual 144, 3) := by decide +kernel
theorem dX5_tour_108 : decode cX5_tour 108 = .ok (.iload 4, 2) := by decide +kernel
theorem dX5_tour_110 : decode cX5_tour 110 = .ok (.aload_n 0, 1) := by decide +kernel
theorem dX5_tour_111 : decode cX5_tour 111 = .ok (.invokevirtual 126, 3) := by decide +kernel
theorem dX5_tour_114 : decode cX5_tour 114 = .ok (.aload_n 0, 1) := by decide +kernel
theorem dX5_tour_115 : decode cX5_tour 115 = .ok (.getfield 13, 3) := by decide +kernel
theorem dX5_tour_118 : decode cX5_tour 118 = .ok (.iconst 1, 1) := by decide +kernel
theorem dX5_tour_119 : decode cX5_tour 119 = .ok (.iaload, 1) := by decide +kernel
theorem dX5_tour_120 : decode cX5_tour 120 = .ok (.if_icmp .ne 7, 3) := by decide +kernel
theorem dX5_tour_123 : decode cX5_tour 123 = .ok (.iconst 1, 1) := by decide +kernel
theorem dX5_tour_124 : decode cX5_tour 124 = .ok (.goto 4, 3) := by decide +kernel
theorem dX5_tour_127 : decode cX5_tour 127 = .ok (.iconst 0, 1) := by decide +kernel
theorem dX5_tour_128 : decode cX5_tour 128 = .ok (.iadd, 1) := by decide +kernel
theorem dX5_tour_129 : decode cX5_tour 129 = .ok (.istore 4, 2) := by decide +kernel
theorem dX5_tour_131 : decode cX5_tour 131 = .ok (.aload_n 0, 1) := by decide +kernel
theorem dX5_tour_132 : decode cX5_tour 132 = .ok (.getfield 108, 3) := by decide +kernel
theorem dX5_tour_135 : decode cX5_tour 135 = .ok (.iload 5, 2) := by decide +kernel
theorem dX5_tour_137 : decode cX5_tour 137 = .ok (.if_icmp .le 10, 3) := by decide +kernel
theorem dX5_tour_140 : decode cX5_tour 140 = .ok (.aload_n 0, 1) := by decide +kernel
theorem dX5_tour_141 : decode cX5_tour 141 = .ok (.getfield 108, 3) := by decide +kernel
theorem dX5_tour_144 : decode cX5_tour 144 = .ok (.goto 5, 3) := by decide +kernel
theorem dX5_tour_147 : decode cX5_tour 147 = .ok (.iload 5, 2) := by decide +kernel
theorem dX5_tour_149 : decode cX5_tour 149 = .ok (.istore 5, 2) := by decide +kernel
theorem dX5_tour_151 : decode cX5_tour 151 = .ok (.iinc 6 1, 3) := by decide +kernel
theorem dX5_tour_154 : decode cX5_tour 154 = .ok (.goto (-109), 3) := by decide +kernel
theorem dX5_tour_157 : decode cX5_tour 157 = .ok (.iload_n 3, 1) := by decide +kernel
theorem dX5_tour_158 : decode cX5_tour 158 = .ok (.ifCond .ne 8, 3) := by decide +kernel
theorem dX5_tour_161 : decode cX5_tour 161 = .ok (.iload 4, 2) := by decide +kernel
theorem dX5_tour_163 : decode cX5_tour 163 = .ok (.goto 5, 3) := by decide +kernel
theorem dX5_tour_166 : decode cX5_tour 166 = .ok (.iload 5, 2) := by decide +kernel
theorem dX5_tour_168 : decode cX5_tour 168 = .ok (.ireturn, 1) := by decide +kernel
theorem dX5_keep_0 : decode cX5_keep 0 = .ok (.aload_n 0, 1) := by decide +kernel
theorem dX5_keep_1 : decode cX5_keep 1 = .ok (.getfield 93, 3) := by decide +kernel
theorem dX5_keep_4 : decode cX5_keep 4 = .ok (.iconst 2, 1) := by decide +kernel
theorem dX5_keep_5 : decode cX5_keep 5 = .ok (.if_icmp .ne 6, 3) := by decide +kernel
theorem dX5_keep_8 : decode cX5_keep 8 = .ok (.bipush (-3), 2) := by decide +kernel
theorem dX5_keep_10 : decode cX5_keep 10 = .ok (.ireturn, 1) := by decide +kernel
theorem dX5_keep_11 : decode cX5_keep 11 = .ok (.iconst 0, 1) := by decide +kernel
theorem dX5_keep_12 : decode cX5_keep 12 = .ok (.istore_n 1, 1) := by decide +kernel
theorem dX5_keep_13 : decode cX5_keep 13 = .ok (.iload_n 1, 1) := by decide +kernel
theorem dX5_keep_14 : decode cX5_keep 14 = .ok (.bipush 8, 2) := by decide +kernel
theorem dX5_keep_16 : decode cX5_keep 16 = .ok (.if_icmp .ge 29, 3) := by decide +kernel
theorem dX5_keep_19 : decode cX5_keep 19 = .ok (.aload_n 0, 1) := by decide +kernel
theorem dX5_keep_20 : decode cX5_keep 20 = .ok (.getfield 25, 3) := by decide +kernel
theorem dX5_keep_23 : decode cX5_keep 23 = .ok (.bipush 8, 2) := by decide +kernel
theorem dX5_keep_25 : decode cX5_keep 25 = .ok (.aload_n 0, 1) := by decide +kernel
theorem dX5_keep_26 : decode cX5_keep 26 = .ok (.getfield 93, 3) := by decide +kernel
theorem dX5_keep_29 : decode cX5_keep 29 = .ok (.imul, 1) := by decide +kernel
theorem dX5_keep_30 : decode cX5_keep 30 = .ok (.iload_n 1, 1) := by decide +kernel
theorem dX5_keep_31 : decode cX5_keep 31 = .ok (.iadd, 1) := by decide +kernel
theorem dX5_keep_32 : decode cX5_keep 32 = .ok (.aload_n 0, 1) := by decide +kernel
theorem dX5_keep_33 : decode cX5_keep 33 = .ok (.getfield 19, 3) := by decide +kernel
theorem dX5_keep_36 : decode cX5_keep 36 = .ok (.iload_n 1, 1) := by decide +kernel
theorem dX5_keep_37 : decode cX5_keep 37 = .ok (.iaload, 1) := by decide +kernel
theorem dX5_keep_38 : decode cX5_keep 38 = .ok (.iastore, 1) := by decide +kernel
theorem dX5_keep_39 : decode cX5_keep 39 = .ok (.iinc 1 1, 3) := by decide +kernel
theorem dX5_keep_42 : decode cX5_keep 42 = .ok (.goto (-29), 3) := by decide +kernel
theorem dX5_keep_45 : decode cX5_keep 45 = .ok (.aload_n 0, 1) := by decide +kernel
theorem dX5_keep_46 : decode cX5_keep 46 = .ok (.dup, 1) := by decide +kernel
theorem dX5_keep_47 : decode cX5_keep 47 = .ok (.getfield 93, 3) := by decide +kernel
theorem dX5_keep_50 : decode cX5_keep 50 = .ok (.iconst 1, 1) := by decide +kernel
theorem dX5_keep_51 : decode cX5_keep 51 = .ok (.iadd, 1) := by decide +kernel
theorem dX5_keep_52 : decode cX5_keep 52 = .ok (.putfield 93, 3) := by decide +kernel
theorem dX5_keep_55 : decode cX5_keep 55 = .ok (.aload_n 0, 1) := by decide +kernel
theorem dX5_keep_56 : decode cX5_keep 56 = .ok (.getfield 93, 3) := by decide +kernel
theorem dX5_keep_59 : decode cX5_keep 59 = .ok (.ireturn, 1) := by decide +kernel
theorem dX5_back_0 : decode cX5_back 0 = .ok (.aload_n 0, 1) := by decide +kernel
theorem dX5_back_1 : decode cX5_back 1 = .ok (.getfield 93, 3) := by decide +kernel
theorem dX5_back_4 : decode cX5_back 4 = .ok (.ifCond .ne 6, 3) := by decide +kernel
theorem dX5_back_7 : decode cX5_back 7 = .ok (.bipush (-2), 2) := by decide +kernel
theorem dX5_back_9 : decode cX5_back 9 = .ok (.ireturn, 1) := by decide +kernel
theorem dX5_back_10 : decode cX5_back 10 = .ok (.aload_n 0, 1) := by decide +kernel
theorem dX5_back_11 : decode cX5_back 11 = .ok (.dup, 1) := by decide +kernel
theorem dX5_back_12 : decode cX5_back 12 = .ok (.getfield 93, 3) := by decide +kernel
theorem dX5_back_15 : decode cX5_back 15 = .ok (.iconst 1, 1) := by decide +kernel
theorem dX5_back_16 : decode cX5_back 16 = .ok (.isub, 1) := by decide +kernel
theorem dX5_back_17 : decode cX5_back 17 = .ok (.putfield 93, 3) := by decide +kernel
theorem dX5_back_20 : decode cX5_back 20 = .ok (.iconst 0, 1) := by decide +kernel
theorem dX5_back_21 : decode cX5_back 21 = .ok (.istore_n 1, 1) := by decide +kernel
theorem dX5_back_22 : decode cX5_back 22 = .ok (.iload_n 1, 1) := by decide +kernel
theorem dX5_back_23 : decode cX5_back 23 = .ok (.bipush 8, 2) := by decide +kernel
theorem dX5_back_25 : decode cX5_back 25 = .ok (.if_icmp .ge 29, 3) := by decide +kernel
theorem dX5_back_28 : decode cX5_back 28 = .ok (.aload_n 0, 1) := by decide +kernel
theorem dX5_back_29 : decode cX5_back 29 = .ok (.getfield 19, 3) := by decide +kernel
theorem dX5_back_32 : decode cX5_back 32 = .ok (.iload_n 1, 1) := by decide +kernel
theorem dX5_back_33 : decode cX5_back 33 = .ok (.aload_n 0, 1) := by decide +kernel
theorem dX5_back_34 : decode cX5_back 34 = .ok (.getfield 25, 3) := by decide +kernel
theorem dX5_back_37 : decode cX5_back 37 = .ok (.bipush 8, 2) := by decide +kernel
theorem dX5_back_39 : decode cX5_back 39 = .ok (.aload_n 0, 1) := by decide +kernel
theorem dX5_back_40 : decode cX5_back 40 = .ok (.getfield 93, 3) := by decide +kernel
theorem dX5_back_43 : decode cX5_back 43 = .ok (.imul, 1) := by decide +kernel
theorem dX5_back_44 : decode cX5_back 44 = .ok (.iload_n 1, 1) := by decide +kernel
theorem dX5_back_45 : decode cX5_back 45 = .ok (.iadd, 1) := by decide +kernel
theorem dX5_back_46 : decode cX5_back 46 = .ok (.iaload, 1) := by decide +kernel
theorem dX5_back_47 : decode cX5_back 47 = .ok (.iastore, 1) := by decide +kernel
theorem dX5_back_48 : decode cX5_back 48 = .ok (.iinc 1 1, 3) := by decide +kernel
theorem dX5_back_51 : decode cX5_back 51 = .ok (.goto (-29), 3) := by decide +kernel
theorem dX5_back_54 : decode cX5_back 54 = .ok (.aload_n 0, 1) := by decide +kernel
theorem dX5_back_55 : decode cX5_back 55 = .ok (.iconst 0, 1) := by decide +kernel
theorem dX5_back_56 : decode cX5_back 56 = .ok (.putfield 90, 3) := by decide +kernel
theorem dX5_back_59 : decode cX5_back 59 = .ok (.aload_n 0, 1) := by decide +kernel
theorem dX5_back_60 : decode cX5_back 60 = .ok (.getfield 93, 3) := by decide +kernel
theorem dX5_back_63 : decode cX5_back 63 = .ok (.ireturn, 1) := by decide +kernel
theorem dX5_count_0 : decode cX5_count 0 = .ok (.iload_n 1, 1) := by decide +kernel
theorem dX5_count_1 : decode cX5_count 1 = .ok (.tableswitch 102 0 7 #[47, 54, 61, 71, 82, 87, 92, 97], 47) := by decide +kernel
theorem dX5_count_48 : decode cX5_count 48 = .ok (.aload_n 0, 1) := by decide +kernel
theorem dX5_count_49 : decode cX5_count 49 = .ok (.getfield 13, 3) := by decide +kernel
theorem dX5_count_52 : decode cX5_count 52 = .ok (.iconst 0, 1) := by decide +kernel
theorem dX5_count_53 : decode cX5_count 53 = .ok (.iaload, 1) := by decide +kernel
theorem dX5_count_54 : decode cX5_count 54 = .ok (.ireturn, 1) := by decide +kernel
theorem dX5_count_55 : decode cX5_count 55 = .ok (.aload_n 0, 1) := by decide +kernel
theorem dX5_count_56 : decode cX5_count 56 = .ok (.getfield 13, 3) := by decide +kernel
theorem dX5_count_59 : decode cX5_count 59 = .ok (.iconst 1, 1) := by decide +kernel
theorem dX5_count_60 : decode cX5_count 60 = .ok (.iaload, 1) := by decide +kernel
theorem dX5_count_61 : decode cX5_count 61 = .ok (.ireturn, 1) := by decide +kernel
theorem dX5_count_62 : decode cX5_count 62 = .ok (.aload_n 0, 1) := by decide +kernel
theorem dX5_count_63 : decode cX5_count 63 = .ok (.getfield 13, 3) := by decide +kernel
theorem dX5_count_66 : decode cX5_count 66 = .ok (.iconst 3, 1) := by decide +kernel
theorem dX5_count_67 : decode cX5_count 67 = .ok (.iaload, 1) := by decide +kernel
theorem dX5_count_68 : decode cX5_count 68 = .ok (.invokestatic 117, 3) := by decide +kernel
theorem dX5_count_71 : decode cX5_count 71 = .ok (.ireturn, 1) := by decide +kernel
theorem dX5_count_72 : decode cX5_count 72 = .ok (.aload_n 0, 1) := by decide +kernel
theorem dX5_count_73 : decode cX5_count 73 = .ok (.getfield 19, 3) := by decide +kernel
theorem dX5_count_76 : decode cX5_count 76 = .ok (.bipush 7, 2) := by decide +kernel
theorem dX5_count_78 : decode cX5_count 78 = .ok (.iaload, 1) := by decide +kernel
theorem dX5_count_79 : decode cX5_count 79 = .ok (.invokestatic 117, 3) := by decide +kernel
theorem dX5_count_82 : decode cX5_count 82 = .ok (.ireturn, 1) := by decide +kernel
theorem dX5_count_83 : decode cX5_count 83 = .ok (.aload_n 0, 1) := by decide +kernel
theorem dX5_count_84 : decode cX5_count 84 = .ok (.getfield 96, 3) := by decide +kernel
theorem dX5_count_87 : decode cX5_count 87 = .ok (.ireturn, 1) := by decide +kernel
theorem dX5_count_88 : decode cX5_count 88 = .ok (.aload_n 0, 1) := by decide +kernel
theorem dX5_count_89 : decode cX5_count 89 = .ok (.getfield 90, 3) := by decide +kernel
theorem dX5_count_92 : decode cX5_count 92 = .ok (.ireturn, 1) := by decide +kernel
theorem dX5_count_93 : decode cX5_count 93 = .ok (.aload_n 0, 1) := by decide +kernel
theorem dX5_count_94 : decode cX5_count 94 = .ok (.getfield 93, 3) := by decide +kernel
theorem dX5_count_97 : decode cX5_count 97 = .ok (.ireturn, 1) := by decide +kernel
theorem dX5_count_98 : decode cX5_count 98 = .ok (.aload_n 0, 1) := by decide +kernel
theorem dX5_count_99 : decode cX5_count 99 = .ok (.getfield 64, 3) := by decide +kernel
theorem dX5_count_102 : decode cX5_count 102 = .ok (.ireturn, 1) := by decide +kernel
theorem dX5_count_103 : decode cX5_count 103 = .ok (.iconst (-1), 1) := by decide +kernel
theorem dX5_count_104 : decode cX5_count 104 = .ok (.ireturn, 1) := by decide +kernel
theorem dJ6_bitCount_0f7a4_0 : decode cJ6_bitCount_0f7a4 0 = .ok (.iload_n 0, 1) := by decide +kernel
theorem dJ6_bitCount_0f7a4_1 : decode cJ6_bitCount_0f7a4 1 = .ok (.iload_n 0, 1) := by decide +kernel
theorem dJ6_bitCount_0f7a4_2 : decode cJ6_bitCount_0f7a4 2 = .ok (.iconst 1, 1) := by decide +kernel
theorem dJ6_bitCount_0f7a4_3 : decode cJ6_bitCount_0f7a4 3 = .ok (.iushr, 1) := by decide +kernel
theorem dJ6_bitCount_0f7a4_4 : decode cJ6_bitCount_0f7a4 4 = .ok (.ldc_w 265, 3) := by decide +kernel
theorem dJ6_bitCount_0f7a4_7 : decode cJ6_bitCount_0f7a4 7 = .ok (.iand, 1) := by decide +kernel
theorem dJ6_bitCount_0f7a4_8 : decode cJ6_bitCount_0f7a4 8 = .ok (.isub, 1) := by decide +kernel
theorem dJ6_bitCount_0f7a4_9 : decode cJ6_bitCount_0f7a4 9 = .ok (.istore_n 0, 1) := by decide +kernel
theorem dJ6_bitCount_0f7a4_10 : decode cJ6_bitCount_0f7a4 10 = .ok (.iload_n 0, 1) := by decide +kernel
theorem dJ6_bitCount_0f7a4_11 : decode cJ6_bitCount_0f7a4 11 = .ok (.ldc_w 266, 3) := by decide +kernel
theorem dJ6_bitCount_0f7a4_14 : decode cJ6_bitCount_0f7a4 14 = .ok (.iand, 1) := by decide +kernel
theorem dJ6_bitCount_0f7a4_15 : decode cJ6_bitCount_0f7a4 15 = .ok (.iload_n 0, 1) := by decide +kernel
theorem dJ6_bitCount_0f7a4_16 : decode cJ6_bitCount_0f7a4 16 = .ok (.iconst 2, 1) := by decide +kernel
theorem dJ6_bitCount_0f7a4_17 : decode cJ6_bitCount_0f7a4 17 = .ok (.iushr, 1) := by decide +kernel
theorem dJ6_bitCount_0f7a4_18 : decode cJ6_bitCount_0f7a4 18 = .ok (.ldc_w 266, 3) := by decide +kernel
theorem dJ6_bitCount_0f7a4_21 : decode cJ6_bitCount_0f7a4 21 = .ok (.iand, 1) := by decide +kernel
theorem dJ6_bitCount_0f7a4_22 : decode cJ6_bitCount_0f7a4 22 = .ok (.iadd, 1) := by decide +kernel
theorem dJ6_bitCount_0f7a4_23 : decode cJ6_bitCount_0f7a4 23 = .ok (.istore_n 0, 1) := by decide +kernel
theorem dJ6_bitCount_0f7a4_24 : decode cJ6_bitCount_0f7a4 24 = .ok (.iload_n 0, 1) := by decide +kernel
theorem dJ6_bitCount_0f7a4_25 : decode cJ6_bitCount_0f7a4 25 = .ok (.iload_n 0, 1) := by decide +kernel
theorem dJ6_bitCount_0f7a4_26 : decode cJ6_bitCount_0f7a4 26 = .ok (.iconst 4, 1) := by decide +kernel
theorem dJ6_bitCount_0f7a4_27 : decode cJ6_bitCount_0f7a4 27 = .ok (.iushr, 1) := by decide +kernel
theorem dJ6_bitCount_0f7a4_28 : decode cJ6_bitCount_0f7a4 28 = .ok (.iadd, 1) := by decide +kernel
theorem dJ6_bitCount_0f7a4_29 : decode cJ6_bitCount_0f7a4 29 = .ok (.ldc_w 267, 3) := by decide +kernel
theorem dJ6_bitCount_0f7a4_32 : decode cJ6_bitCount_0f7a4 32 = .ok (.iand, 1) := by decide +kernel
theorem dJ6_bitCount_0f7a4_33 : decode cJ6_bitCount_0f7a4 33 = .ok (.istore_n 0, 1) := by decide +kernel
theorem dJ6_bitCount_0f7a4_34 : decode cJ6_bitCount_0f7a4 34 = .ok (.iload_n 0, 1) := by decide +kernel
theorem dJ6_bitCount_0f7a4_35 : decode cJ6_bitCount_0f7a4 35 = .ok (.iload_n 0, 1) := by decide +kernel
theorem dJ6_bitCount_0f7a4_36 : decode cJ6_bitCount_0f7a4 36 = .ok (.bipush 8, 2) := by decide +kernel
theorem dJ6_bitCount_0f7a4_38 : decode cJ6_bitCount_0f7a4 38 = .ok (.iushr, 1) := by decide +kernel
theorem dJ6_bitCount_0f7a4_39 : decode cJ6_bitCount_0f7a4 39 = .ok (.iadd, 1) := by decide +kernel
theorem dJ6_bitCount_0f7a4_40 : decode cJ6_bitCount_0f7a4 40 = .ok (.istore_n 0, 1) := by decide +kernel
theorem dJ6_bitCount_0f7a4_41 : decode cJ6_bitCount_0f7a4 41 = .ok (.iload_n 0, 1) := by decide +kernel
theorem dJ6_bitCount_0f7a4_42 : decode cJ6_bitCount_0f7a4 42 = .ok (.iload_n 0, 1) := by decide +kernel
theorem dJ6_bitCount_0f7a4_43 : decode cJ6_bitCount_0f7a4 43 = .ok (.bipush 16, 2) := by decide +kernel
theorem dJ6_bitCount_0f7a4_45 : decode cJ6_bitCount_0f7a4 45 = .ok (.iushr, 1) := by decide +kernel
theorem dJ6_bitCount_0f7a4_46 : decode cJ6_bitCount_0f7a4 46 = .ok (.iadd, 1) := by decide +kernel
theorem dJ6_bitCount_0f7a4_47 : decode cJ6_bitCount_0f7a4 47 = .ok (.istore_n 0, 1) := by decide +kernel
theorem dJ6_bitCount_0f7a4_48 : decode cJ6_bitCount_0f7a4 48 = .ok (.iload_n 0, 1) := by decide +kernel
theorem dJ6_bitCount_0f7a4_49 : decode cJ6_bitCount_0f7a4 49 = .ok (.bipush 63, 2) := by decide +kernel
theorem dJ6_bitCount_0f7a4_51 : decode cJ6_bitCount_0f7a4 51 = .ok (.iand, 1) := by decide +kernel
theorem dJ6_bitCount_0f7a4_52 : decode cJ6_bitCount_0f7a4 52 = .ok (.ireturn, 1) := by decide +kernel
theorem dJ7_fill_53178_0 : decode cJ7_fill_53178 0 = .ok (.iconst 0, 1) := by decide +kernel
theorem dJ7_fill_53178_1 : decode cJ7_fill_53178 1 = .ok (.istore_n 2, 1) := by decide +kernel
theorem dJ7_fill_53178_2 : decode cJ7_fill_53178 2 = .ok (.aload_n 0, 1) := by decide +kernel
theorem dJ7_fill_53178_3 : decode cJ7_fill_53178 3 = .ok (.arraylength, 1) := by decide +kernel
theorem dJ7_fill_53178_4 : decode cJ7_fill_53178 4 = .ok (.istore_n 3, 1) := by decide +kernel
theorem dJ7_fill_53178_5 : decode cJ7_fill_53178 5 = .ok (.iload_n 2, 1) := by decide +kernel
theorem dJ7_fill_53178_6 : decode cJ7_fill_53178 6 = .ok (.iload_n 3, 1) := by decide +kernel
theorem dJ7_fill_53178_7 : decode cJ7_fill_53178 7 = .ok (.if_icmp .ge 13, 3) := by decide +kernel
theorem dJ7_fill_53178_10 : decode cJ7_fill_53178 10 = .ok (.aload_n 0, 1) := by decide +kernel
theorem dJ7_fill_53178_11 : decode cJ7_fill_53178 11 = .ok (.iload_n 2, 1) := by decide +kernel
theorem dJ7_fill_53178_12 : decode cJ7_fill_53178 12 = .ok (.iload_n 1, 1) := by decide +kernel
theorem dJ7_fill_53178_13 : decode cJ7_fill_53178 13 = .ok (.iastore, 1) := by decide +kernel
theorem dJ7_fill_53178_14 : decode cJ7_fill_53178 14 = .ok (.iinc 2 1, 3) := by decide +kernel
theorem dJ7_fill_53178_17 : decode cJ7_fill_53178 17 = .ok (.goto (-12), 3) := by decide +kernel
theorem dJ7_fill_53178_20 : decode cJ7_fill_53178 20 = .ok (.return_, 1) := by decide +kernel
theorem dL_law_0 : decode cL_law 0 = .ok (.new 7, 3) := by decide +kernel
theorem dL_law_3 : decode cL_law 3 = .ok (.dup, 1) := by decide +kernel
theorem dL_law_4 : decode cL_law 4 = .ok (.invokespecial 9, 3) := by decide +kernel
theorem dL_law_7 : decode cL_law 7 = .ok (.astore_n 1, 1) := by decide +kernel
theorem dL_law_8 : decode cL_law 8 = .ok (.new 10, 3) := by decide +kernel
theorem dL_law_11 : decode cL_law 11 = .ok (.dup, 1) := by decide +kernel
theorem dL_law_12 : decode cL_law 12 = .ok (.invokespecial 12, 3) := by decide +kernel
theorem dL_law_15 : decode cL_law 15 = .ok (.astore_n 2, 1) := by decide +kernel
theorem dL_law_16 : decode cL_law 16 = .ok (.iconst 0, 1) := by decide +kernel
theorem dL_law_17 : decode cL_law 17 = .ok (.istore_n 3, 1) := by decide +kernel
theorem dL_law_18 : decode cL_law 18 = .ok (.iload_n 3, 1) := by decide +kernel
theorem dL_law_19 : decode cL_law 19 = .ok (.aload_n 0, 1) := by decide +kernel
theorem dL_law_20 : decode cL_law 20 = .ok (.arraylength, 1) := by decide +kernel
theorem dL_law_21 : decode cL_law 21 = .ok (.iconst 4, 1) := by decide +kernel
theorem dL_law_22 : decode cL_law 22 = .ok (.isub, 1) := by decide +kernel
theorem dL_law_23 : decode cL_law 23 = .ok (.if_icmp .gt 828, 3) := by decide +kernel
theorem dL_law_26 : decode cL_law 26 = .ok (.aload_n 0, 1) := by decide +kernel
theorem dL_law_27 : decode cL_law 27 = .ok (.iload_n 3, 1) := by decide +kernel
theorem dL_law_28 : decode cL_law 28 = .ok (.iaload, 1) := by decide +kernel
theorem dL_law_29 : decode cL_law 29 = .ok (.bipush 31, 2) := by decide +kernel
theorem dL_law_31 : decode cL_law 31 = .ok (.iand, 1) := by decide +kernel
theorem dL_law_32 : decode cL_law 32 = .ok (.tableswitch 813 0 30 #[140, 163, 176, 189, 202, 235, 258, 281, 304, 327, 340, 363, 396, 419, 432, 455, 468, 491, 514, 527, 550, 563, 586, 619, 662, 675, 698, 721, 764, 777, 790], 140) := by decide +kernel
theorem dL_law_172 : decode cL_law 172 = .ok (.aload_n 1, 1) := by decide +kernel
theorem dL_law_173 : decode cL_law 173 = .ok (.aload_n 0, 1) := by decide +kernel
theorem dL_law_174 : decode cL_law 174 = .ok (.iload_n 3, 1) := by decide +kernel
theorem dL_law_175 : decode cL_law 175 = .ok (.iconst 1, 1) := by decide +kernel
theorem dL_law_176 : decode cL_law 176 = .ok (.iadd, 1) := by decide +kernel
theorem dL_law_177 : decode cL_law 177 = .ok (.iaload, 1) := by decide +kernel
theorem dL_law_178 : decode cL_law 178 = .ok (.invokevirtual 13, 3) := by decide +kernel
theorem dL_law_181 : decode cL_law 181 = .ok (.aload_n 2, 1) := by decide +kernel
theorem dL_law_182 : decode cL_law 182 = .ok (.aload_n 0, 1) := by decide +kernel
theorem dL_law_183 : decode cL_law 183 = .ok (.iload_n 3, 1) := by decide +kernel
theorem dL_law_184 : decode cL_law 184 = .ok (.iconst 1, 1) := by decide +kernel
theorem dL_law_185 : decode cL_law 185 = .ok (.iadd, 1) := by decide +kernel
theorem dL_law_186 : decode cL_law 186 = .ok (.iaload, 1) := by decide +kernel
theorem dL_law_187 : decode cL_law 187 = .ok (.invokevirtual 17, 3) := by decide +kernel
theorem dL_law_190 : decode cL_law 190 = .ok (.if_icmp .eq 655, 3) := by decide +kernel
theorem dL_law_193 : decode cL_law 193 = .ok (.iconst 0, 1) := by decide +kernel
theorem dL_law_194 : decode cL_law 194 = .ok (.ireturn, 1) := by decide +kernel
theorem dL_law_195 : decode cL_law 195 = .ok (.aload_n 1, 1) := by decide +kernel
theorem dL_law_196 : decode cL_law 196 = .ok (.invokevirtual 18, 3) := by decide +kernel
theorem dL_law_199 : decode cL_law 199 = .ok (.aload_n 2, 1) := by decide +kernel
theorem dL_law_200 : decode cL_law 200 = .ok (.invokevirtual 22, 3) := by decide +kernel
theorem dL_law_203 : decode cL_law 203 = .ok (.if_icmp .eq 642, 3) := by decide +kernel
theorem dL_law_206 : decode cL_law 206 = .ok (.iconst 0, 1) := by decide +kernel
theorem dL_law_207 : decode cL_law 207 = .ok (.ireturn, 1) := by decide +kernel
theorem dL_law_208 : decode cL_law 208 = .ok (.aload_n 1, 1) := by decide +kernel
theorem dL_law_209 : decode cL_law 209 = .ok (.invokevirtual 23, 3) := by decide +kernel
theorem dL_law_212 : decode cL_law 212 = .ok (.aload_n 2, 1) := by decide +kernel
theorem dL_law_213 : decode cL_law 213 = .ok (.invokevirtual 26, 3) := by decide +kernel
theorem dL_law_216 : decode cL_law 216 = .ok (.if_icmp .eq 629, 3) := by decide +kernel
theorem dL_law_219 : decode cL_law 219 = .ok (.iconst 0, 1) := by decide +kernel
theorem dL_law_220 : decode cL_law 220 = .ok (.ireturn, 1) := by decide +kernel
theorem dL_law_221 : decode cL_law 221 = .ok (.aload_n 1, 1) := by decide +kernel
theorem dL_law_222 : decode cL_law 222 = .ok (.invokevirtual 27, 3) := by decide +kernel
theorem dL_law_225 : decode cL_law 225 = .ok (.aload_n 2, 1) := by decide +kernel
theorem dL_law_226 : decode cL_law 226 = .ok (.invokevirtual 30, 3) := by decide +kernel
theorem dL_law_229 : decode cL_law 229 = .ok (.if_icmp .eq 616, 3) := by decide +kernel
theorem dL_law_232 : decode cL_law 232 = .ok (.iconst 0, 1) := by decide +kernel
theorem dL_law_233 : decode cL_law 233 = .ok (.ireturn, 1) := by decide +kernel
theorem dL_law_234 : decode cL_law 234 = .ok (.aload_n 1, 1) := by decide +kernel
theorem dL_law_235 : decode cL_law 235 = .ok (.aload_n 0, 1) := by decide +kernel
theorem dL_law_236 : decode cL_law 236 = .ok (.iload_n 3, 1) := by decide +kernel
theorem dL_law_237 : decode cL_law 237 = .ok (.iconst 1, 1) := by decide +kernel
theorem dL_law_238 : decode cL_law 238 = .ok (.iadd, 1) := by decide +kernel
theorem dL_law_239 : decode cL_law 239 = .ok (.iaload, 1) := by decide +kernel
theorem dL_law_240 : decode cL_law 240 = .ok (.aload_n 0, 1) := by decide +kernel
theorem dL_law_241 : decode cL_law 241 = .ok (.iload_n 3, 1) := by decide +kernel
theorem dL_law_242 : decode cL_law 242 = .ok (.iconst 2, 1) := by decide +kernel
theorem dL_law_243 : decode cL_law 243 = .ok (.iadd, 1) := by decide +kernel
theorem dL_law_244 : decode cL_law 244 = .ok (.iaload, 1) := by decide +kernel
theorem dL_law_245 : decode cL_law 245 = .ok (.invokevirtual 31, 3) := by decide +kernel
theorem dL_law_248 : decode cL_law 248 = .ok (.aload_n 2, 1) := by decide +kernel
theorem dL_law_249 : decode cL_law 249 = .ok (.aload_n 0, 1) := by decide +kernel
theorem dL_law_250 : decode cL_law 250 = .ok (.iload_n 3, 1) := by decide +kernel
theorem dL_law_251 : decode cL_law 251 = .ok (.iconst 1, 1) := by decide +kernel
theorem dL_law_252 : decode cL_law 252 = .ok (.iadd, 1) := by decide +kernel
theorem dL_law_253 : decode cL_law 253 = .ok (.iaload, 1) := by decide +kernel
theorem dL_law_254 : decode cL_law 254 = .ok (.aload_n 0, 1) := by decide +kernel
theorem dL_law_255 : decode cL_law 255 = .ok (.iload_n 3, 1) := by decide +kernel
theorem dL_law_256 : decode cL_law 256 = .ok (.iconst 2, 1) := by decide +kernel
theorem dL_law_257 : decode cL_law 257 = .ok (.iadd, 1) := by decide +kernel
theorem dL_law_258 : decode cL_law 258 = .ok (.iaload, 1) := by decide +kernel
theorem dL_law_259 : decode cL_law 259 = .ok (.invokevirtual 35, 3) := by decide +kernel
theorem dL_law_262 : decode cL_law 262 = .ok (.if_icmp .eq 583, 3) := by decide +kernel
theorem dL_law_265 : decode cL_law 265 = .ok (.iconst 0, 1) := by decide +kernel
theorem dL_law_266 : decode cL_law 266 = .ok (.ireturn, 1) := by decide +kernel
theorem dL_law_267 : decode cL_law 267 = .ok (.aload_n 1, 1) := by decide +kernel
theorem dL_law_268 : decode cL_law 268 = .ok (.aload_n 0, 1) := by decide +kernel
theorem dL_law_269 : decode cL_law 269 = .ok (.iload_n 3, 1) := by decide +kernel
theorem dL_law_270 : decode cL_law 270 = .ok (.iconst 1, 1) := by decide +kernel
theorem dL_law_271 : decode cL_law 271 = .ok (.iadd, 1) := by decide +kernel
theorem dL_law_272 : decode cL_law 272 = .ok (.iaload, 1) := by decide +kernel
theorem dL_law_273 : decode cL_law 273 = .ok (.invokevirtual 36, 3) := by decide +kernel
theorem dL_law_276 : decode cL_law 276 = .ok (.aload_n 2, 1) := by decide +kernel
theorem dL_law_277 : decode cL_law 277 = .ok (.aload_n 0, 1) := by decide +kernel
theorem dL_law_278 : decode cL_law 278 = .ok (.iload_n 3, 1) := by decide +kernel
theorem dL_law_279 : decode cL_law 279 = .ok (.iconst 1, 1) := by decide +kernel
theorem dL_law_280 : decode cL_law 280 = .ok (.iadd, 1) := by decide +kernel
theorem dL_law_281 : decode cL_law 281 = .ok (.iaload, 1) := by decide +kernel
theorem dL_law_282 : decode cL_law 282 = .ok (.invokevirtual 39, 3) := by decide +kernel
theorem dL_law_285 : decode cL_law 285 = .ok (.if_icmp .eq 560, 3) := by decide +kernel
theorem dL_law_288 : decode cL_law 288 = .ok (.iconst 0, 1) := by decide +kernel
theorem dL_law_289 : decode cL_law 289 = .ok (.ireturn, 1) := by decide +kernel
theorem dL_law_290 : decode cL_law 290 = .ok (.aload_n 1, 1) := by decide +kernel
theorem dL_law_291 : decode cL_law 291 = .ok (.aload_n 0, 1) := by decide +kernel
theorem dL_law_292 : decode cL_law 292 = .ok (.iload_n 3, 1) := by decide +kernel
theorem dL_law_293 : decode cL_law 293 = .ok (.iconst 1, 1) := by decide +kernel
theorem dL_law_294 : decode cL_law 294 = .ok (.iadd, 1) := by decide +kernel
theorem dL_law_295 : decode cL_law 295 = .ok (.iaload, 1) := by decide +kernel
theorem dL_law_296 : decode cL_law 296 = .ok (.invokevirtual 40, 3) := by decide +kernel
theorem dL_law_299 : decode cL_law 299 = .ok (.aload_n 2, 1) := by decide +kernel
theorem dL_law_300 : decode cL_law 300 = .ok (.aload_n 0, 1) := by decide +kernel
theorem dL_law_301 : decode cL_law 301 = .ok (.iload_n 3, 1) := by decide +kernel
theorem dL_law_302 : decode cL_law 302 = .ok (.iconst 1, 1) := by decide +kernel
theorem dL_law_303 : decode cL_law 303 = .ok (.iadd, 1) := by decide +kernel
theorem dL_law_304 : decode cL_law 304 = .ok (.iaload, 1) := by decide +kernel
theorem dL_law_305 : decode cL_law 305 = .ok (.invokevirtual 43, 3) := by decide +kernel
theorem dL_law_308 : decode cL_law 308 = .ok (.if_icmp .eq 537, 3) := by decide +kernel
theorem dL_law_311 : decode cL_law 311 = .ok (.iconst 0, 1) := by decide +kernel
theorem dL_law_312 : decode cL_law 312 = .ok (.ireturn, 1) := by decide +kernel
theorem dL_law_313 : decode cL_law 313 = .ok (.aload_n 1, 1) := by decide +kernel
theorem dL_law_314 : decode cL_law 314 = .ok (.aload_n 0, 1) := by decide +kernel
theorem dL_law_315 : decode cL_law 315 = .ok (.iload_n 3, 1) := by decide +kernel
theorem dL_law_316 : decode cL_law 316 = .ok (.iconst 1, 1) := by decide +kernel
theorem dL_law_317 : decode cL_law 317 = .ok (.iadd, 1) := by decide +kernel
theorem dL_law_318 : decode cL_law 318 = .ok (.iaload, 1) := by decide +kernel
theorem dL_law_319 : decode cL_law 319 = .ok (.invokevirtual 44, 3) := by decide +kernel
theorem dL_law_322 : decode cL_law 322 = .ok (.aload_n 2, 1) := by decide +kernel
theorem dL_law_323 : decode cL_law 323 = .ok (.aload_n 0, 1) := by decide +kernel
theorem dL_law_324 : decode cL_law 324 = .ok (.iload_n 3, 1) := by decide +kernel
theorem dL_law_325 : decode cL_law 325 = .ok (.iconst 1, 1) := by decide +kernel
theorem dL_law_326 : decode cL_law 326 = .ok (.iadd, 1) := by decide +kernel
theorem dL_law_327 : decode cL_law 327 = .ok (.iaload, 1) := by decide +kernel
theorem dL_law_328 : decode cL_law 328 = .ok (.invokevirtual 47, 3) := by decide +kernel
theorem dL_law_331 : decode cL_law 331 = .ok (.if_icmp .eq 514, 3) := by decide +kernel
theorem dL_law_334 : decode cL_law 334 = .ok (.iconst 0, 1) := by decide +kernel
theorem dL_law_335 : decode cL_law 335 = .ok (.ireturn, 1) := by decide +kernel
theorem dL_law_336 : decode cL_law 336 = .ok (.aload_n 1, 1) := by decide +kernel
theorem dL_law_337 : decode cL_law 337 = .ok (.aload_n 0, 1) := by decide +kernel
theorem dL_law_338 : decode cL_law 338 = .ok (.iload_n 3, 1) := by decide +kernel
theorem dL_law_339 : decode cL_law 339 = .ok (.iconst 1, 1) := by decide +kernel
theorem dL_law_340 : decode cL_law 340 = .ok (.iadd, 1) := by decide +kernel
theorem dL_law_341 : decode cL_law 341 = .ok (.iaload, 1) := by decide +kernel
theorem dL_law_342 : decode cL_law 342 = .ok (.invokevirtual 48, 3) := by decide +kernel
theorem dL_law_345 : decode cL_law 345 = .ok (.aload_n 2, 1) := by decide +kernel
theorem dL_law_346 : decode cL_law 346 = .ok (.aload_n 0, 1) := by decide +kernel
theorem dL_law_347 : decode cL_law 347 = .ok (.iload_n 3, 1) := by decide +kernel
theorem dL_law_348 : decode cL_law 348 = .ok (.iconst 1, 1) := by decide +kernel
theorem dL_law_349 : decode cL_law 349 = .ok (.iadd, 1) := by decide +kernel
theorem dL_law_350 : decode cL_law 350 = .ok (.iaload, 1) := by decide +kernel
theorem dL_law_351 : decode cL_law 351 = .ok (.invokevirtual 51, 3) := by decide +kernel
theorem dL_law_354 : decode cL_law 354 = .ok (.if_icmp .eq 491, 3) := by decide +kernel
theorem dL_law_357 : decode cL_law 357 = .ok (.iconst 0, 1) := by decide +kernel
theorem dL_law_358 : decode cL_law 358 = .ok (.ireturn, 1) := by decide +kernel
theorem dL_law_359 : decode cL_law 359 = .ok (.aload_n 1, 1) := by decide +kernel
theorem dL_law_360 : decode cL_law 360 = .ok (.invokevirtual 52, 3) := by decide +kernel
theorem dL_law_363 : decode cL_law 363 = .ok (.aload_n 2, 1) := by decide +kernel
theorem dL_law_364 : decode cL_law 364 = .ok (.invokevirtual 55, 3) := by decide +kernel
theorem dL_law_367 : decode cL_law 367 = .ok (.if_icmp .eq 478, 3) := by decide +kernel
theorem dL_law_370 : decode cL_law 370 = .ok (.iconst 0, 1) := by decide +kernel
theorem dL_law_371 : decode cL_law 371 = .ok (.ireturn, 1) := by decide +kernel
theorem dL_law_372 : decode cL_law 372 = .ok (.aload_n 1, 1) := by decide +kernel
theorem dL_law_373 : decode cL_law 373 = .ok (.aload_n 0, 1) := by decide +kernel
theorem dL_law_374 : decode cL_law 374 = .ok (.iload_n 3, 1) := by decide +kernel
theorem dL_law_375 : decode cL_law 375 = .ok (.iconst 1, 1) := by decide +kernel
theorem dL_law_376 : decode cL_law 376 = .ok (.iadd, 1) := by decide +kernel
theorem dL_law_377 : decode cL_law 377 = .ok (.iaload, 1) := by decide +kernel
theorem dL_law_378 : decode cL_law 378 = .ok (.invokevirtual 56, 3) := by decide +kernel
theorem dL_law_381 : decode cL_law 381 = .ok (.aload_n 2, 1) := by decide +kernel
theorem dL_law_382 : decode cL_law 382 = .ok (.aload_n 0, 1) := by decide +kernel
theorem dL_law_383 : decode cL_law 383 = .ok (.iload_n 3, 1) := by decide +kernel
theorem dL_law_384 : decode cL_law 384 = .ok (.iconst 1, 1) := by decide +kernel
theorem dL_law_385 : decode cL_law 385 = .ok (.iadd, 1) := by decide +kernel
theorem dL_law_386 : decode cL_law 386 = .ok (.iaload, 1) := by decide +kernel
theorem dL_law_387 : decode cL_law 387 = .ok (.invokevirtual 59, 3) := by decide +kernel
theorem dL_law_390 : decode cL_law 390 = .ok (.if_icmp .eq 455, 3) := by decide +kernel
theorem dL_law_393 : decode cL_law 393 = .ok (.iconst 0, 1) := by decide +kernel
theorem dL_law_394 : decode cL_law 394 = .ok (.ireturn, 1) := by decide +kernel
theorem dL_law_395 : decode cL_law 395 = .ok (.aload_n 1, 1) := by decide +kernel
theorem dL_law_396 : decode cL_law 396 = .ok (.aload_n 0, 1) := by decide +kernel
theorem dL_law_397 : decode cL_law 397 = .ok (.iload_n 3, 1) := by decide +kernel
theorem dL_law_398 : decode cL_law 398 = .ok (.iconst 1, 1) := by decide +kernel
theorem dL_law_399 : decode cL_law 399 = .ok (.iadd, 1) := by decide +kernel
theorem dL_law_400 : decode cL_law 400 = .ok (.iaload, 1) := by decide +kernel
theorem dL_law_401 : decode cL_law 401 = .ok (.aload_n 0, 1) := by decide +kernel
theorem dL_law_402 : decode cL_law 402 = .ok (.iload_n 3, 1) := by decide +kernel
theorem dL_law_403 : decode cL_law 403 = .ok (.iconst 2, 1) := by decide +kernel
theorem dL_law_404 : decode cL_law 404 = .ok (.iadd, 1) := by decide +kernel
theorem dL_law_405 : decode cL_law 405 = .ok (.iaload, 1) := by decide +kernel
theorem dL_law_406 : decode cL_law 406 = .ok (.invokevirtual 60, 3) := by decide +kernel
theorem dL_law_409 : decode cL_law 409 = .ok (.aload_n 2, 1) := by decide +kernel
theorem dL_law_410 : decode cL_law 410 = .ok (.aload_n 0, 1) := by decide +kernel
theorem dL_law_411 : decode cL_law 411 = .ok (.iload_n 3, 1) := by decide +kernel
theorem dL_law_412 : decode cL_law 412 = .ok (.iconst 1, 1) := by decide +kernel
theorem dL_law_413 : decode cL_law 413 = .ok (.iadd, 1) := by decide +kernel
theorem dL_law_414 : decode cL_law 414 = .ok (.iaload, 1) := by decide +kernel
theorem dL_law_415 : decode cL_law 415 = .ok (.aload_n 0, 1) := by decide +kernel
theorem dL_law_416 : decode cL_law 416 = .ok (.iload_n 3, 1) := by decide +kernel
theorem dL_law_417 : decode cL_law 417 = .ok (.iconst 2, 1) := by decide +kernel
theorem dL_law_418 : decode cL_law 418 = .ok (.iadd, 1) := by decide +kernel
theorem dL_law_419 : decode cL_law 419 = .ok (.iaload, 1) := by decide +kernel
theorem dL_law_420 : decode cL_law 420 = .ok (.invokevirtual 63, 3) := by decide +kernel
theorem dL_law_423 : decode cL_law 423 = .ok (.if_icmp .eq 422, 3) := by decide +kernel
theorem dL_law_426 : decode cL_law 426 = .ok (.iconst 0, 1) := by decide +kernel
theorem dL_law_427 : decode cL_law 427 = .ok (.ireturn, 1) := by decide +kernel
theorem dL_law_428 : decode cL_law 428 = .ok (.aload_n 1, 1) := by decide +kernel
theorem dL_law_429 : decode cL_law 429 = .ok (.aload_n 0, 1) := by decide +kernel
theorem dL_law_430 : decode cL_law 430 = .ok (.iload_n 3, 1) := by decide +kernel
theorem dL_law_431 : decode cL_law 431 = .ok (.iconst 1, 1) := by decide +kernel
theorem dL_law_432 : decode cL_law 432 = .ok (.iadd, 1) := by decide +kernel
theorem dL_law_433 : decode cL_law 433 = .ok (.iaload, 1) := by decide +kernel
theorem dL_law_434 : decode cL_law 434 = .ok (.invokevirtual 64, 3) := by decide +kernel
theorem dL_law_437 : decode cL_law 437 = .ok (.aload_n 2, 1) := by decide +kernel
theorem dL_law_438 : decode cL_law 438 = .ok (.aload_n 0, 1) := by decide +kernel
theorem dL_law_439 : decode cL_law 439 = .ok (.iload_n 3, 1) := by decide +kernel
theorem dL_law_440 : decode cL_law 440 = .ok (.iconst 1, 1) := by decide +kernel
theorem dL_law_441 : decode cL_law 441 = .ok (.iadd, 1) := by decide +kernel
theorem dL_law_442 : decode cL_law 442 = .ok (.iaload, 1) := by decide +kernel
theorem dL_law_443 : decode cL_law 443 = .ok (.invokevirtual 67, 3) := by decide +kernel
theorem dL_law_446 : decode cL_law 446 = .ok (.if_icmp .eq 399, 3) := by decide +kernel
theorem dL_law_449 : decode cL_law 449 = .ok (.iconst 0, 1) := by decide +kernel
theorem dL_law_450 : decode cL_law 450 = .ok (.ireturn, 1) := by decide +kernel
theorem dL_law_451 : decode cL_law 451 = .ok (.aload_n 1, 1) := by decide +kernel
theorem dL_law_452 : decode cL_law 452 = .ok (.invokevirtual 68, 3) := by decide +kernel
theorem dL_law_455 : decode cL_law 455 = .ok (.aload_n 2, 1) := by decide +kernel
theorem dL_law_456 : decode cL_law 456 = .ok (.invokevirtual 71, 3) := by decide +kernel
theorem dL_law_459 : decode cL_law 459 = .ok (.if_icmp .eq 386, 3) := by decide +kernel
theorem dL_law_462 : decode cL_law 462 = .ok (.iconst 0, 1) := by decide +kernel
theorem dL_law_463 : decode cL_law 463 = .ok (.ireturn, 1) := by decide +kernel
theorem dL_law_464 : decode cL_law 464 = .ok (.aload_n 1, 1) := by decide +kernel
theorem dL_law_465 : decode cL_law 465 = .ok (.aload_n 0, 1) := by decide +kernel
theorem dL_law_466 : decode cL_law 466 = .ok (.iload_n 3, 1) := by decide +kernel
theorem dL_law_467 : decode cL_law 467 = .ok (.iconst 1, 1) := by decide +kernel
theorem dL_law_468 : decode cL_law 468 = .ok (.iadd, 1) := by decide +kernel
theorem dL_law_469 : decode cL_law 469 = .ok (.iaload, 1) := by decide +kernel
theorem dL_law_470 : decode cL_law 470 = .ok (.invokevirtual 72, 3) := by decide +kernel
theorem dL_law_473 : decode cL_law 473 = .ok (.aload_n 2, 1) := by decide +kernel
theorem dL_law_474 : decode cL_law 474 = .ok (.aload_n 0, 1) := by decide +kernel
theorem dL_law_475 : decode cL_law 475 = .ok (.iload_n 3, 1) := by decide +kernel
theorem dL_law_476 : decode cL_law 476 = .ok (.iconst 1, 1) := by decide +kernel
theorem dL_law_477 : decode cL_law 477 = .ok (.iadd, 1) := by decide +kernel
theorem dL_law_478 : decode cL_law 478 = .ok (.iaload, 1) := by decide +kernel
theorem dL_law_479 : decode cL_law 479 = .ok (.invokevirtual 75, 3) := by decide +kernel
theorem dL_law_482 : decode cL_law 482 = .ok (.if_icmp .eq 363, 3) := by decide +kernel
theorem dL_law_485 : decode cL_law 485 = .ok (.iconst 0, 1) := by decide +kernel
theorem dL_law_486 : decode cL_law 486 = .ok (.ireturn, 1) := by decide +kernel
theorem dL_law_487 : decode cL_law 487 = .ok (.aload_n 1, 1) := by decide +kernel
theorem dL_law_488 : decode cL_law 488 = .ok (.invokevirtual 76, 3) := by decide +kernel
theorem dL_law_491 : decode cL_law 491 = .ok (.aload_n 2, 1) := by decide +kernel
theorem dL_law_492 : decode cL_law 492 = .ok (.invokevirtual 79, 3) := by decide +kernel
theorem dL_law_495 : decode cL_law 495 = .ok (.if_icmp .eq 350, 3) := by decide +kernel
theorem dL_law_498 : decode cL_law 498 = .ok (.iconst 0, 1) := by decide +kernel
theorem dL_law_499 : decode cL_law 499 = .ok (.ireturn, 1) := by decide +kernel
theorem dL_law_500 : decode cL_law 500 = .ok (.aload_n 1, 1) := by decide +kernel
theorem dL_law_501 : decode cL_law 501 = .ok (.aload_n 0, 1) := by decide +kernel
theorem dL_law_502 : decode cL_law 502 = .ok (.iload_n 3, 1) := by decide +kernel
theorem dL_law_503 : decode cL_law 503 = .ok (.iconst 1, 1) := by decide +kernel
theorem dL_law_504 : decode cL_law 504 = .ok (.iadd, 1) := by decide +kernel
theorem dL_law_505 : decode cL_law 505 = .ok (.iaload, 1) := by decide +kernel
theorem dL_law_506 : decode cL_law 506 = .ok (.invokevirtual 80, 3) := by decide +kernel
theorem dL_law_509 : decode cL_law 509 = .ok (.aload_n 2, 1) := by decide +kernel
theorem dL_law_510 : decode cL_law 510 = .ok (.aload_n 0, 1) := by decide +kernel
theorem dL_law_511 : decode cL_law 511 = .ok (.iload_n 3, 1) := by decide +kernel
theorem dL_law_512 : decode cL_law 512 = .ok (.iconst 1, 1) := by decide +kernel
theorem dL_law_513 : decode cL_law 513 = .ok (.iadd, 1) := by decide +kernel
theorem dL_law_514 : decode cL_law 514 = .ok (.iaload, 1) := by decide +kernel
theorem dL_law_515 : decode cL_law 515 = .ok (.invokevirtual 83, 3) := by decide +kernel
theorem dL_law_518 : decode cL_law 518 = .ok (.if_icmp .eq 327, 3) := by decide +kernel
theorem dL_law_521 : decode cL_law 521 = .ok (.iconst 0, 1) := by decide +kernel
theorem dL_law_522 : decode cL_law 522 = .ok (.ireturn, 1) := by decide +kernel
theorem dL_law_523 : decode cL_law 523 = .ok (.aload_n 1, 1) := by decide +kernel
theorem dL_law_524 : decode cL_law 524 = .ok (.aload_n 0, 1) := by decide +kernel
theorem dL_law_525 : decode cL_law 525 = .ok (.iload_n 3, 1) := by decide +kernel
theorem dL_law_526 : decode cL_law 526 = .ok (.iconst 1, 1) := by decide +kernel
theorem dL_law_527 : decode cL_law 527 = .ok (.iadd, 1) := by decide +kernel
theorem dL_law_528 : decode cL_law 528 = .ok (.iaload, 1) := by decide +kernel
theorem dL_law_529 : decode cL_law 529 = .ok (.invokevirtual 84, 3) := by decide +kernel
theorem dL_law_532 : decode cL_law 532 = .ok (.aload_n 2, 1) := by decide +kernel
theorem dL_law_533 : decode cL_law 533 = .ok (.aload_n 0, 1) := by decide +kernel
theorem dL_law_534 : decode cL_law 534 = .ok (.iload_n 3, 1) := by decide +kernel
theorem dL_law_535 : decode cL_law 535 = .ok (.iconst 1, 1) := by decide +kernel
theorem dL_law_536 : decode cL_law 536 = .ok (.iadd, 1) := by decide +kernel
theorem dL_law_537 : decode cL_law 537 = .ok (.iaload, 1) := by decide +kernel
theorem dL_law_538 : decode cL_law 538 = .ok (.invokevirtual 87, 3) := by decide +kernel
theorem dL_law_541 : decode cL_law 541 = .ok (.if_icmp .eq 304, 3) := by decide +kernel
theorem dL_law_544 : decode cL_law 544 = .ok (.iconst 0, 1) := by decide +kernel
theorem dL_law_545 : decode cL_law 545 = .ok (.ireturn, 1) := by decide +kernel
theorem dL_law_546 : decode cL_law 546 = .ok (.aload_n 1, 1) := by decide +kernel
theorem dL_law_547 : decode cL_law 547 = .ok (.invokevirtual 88, 3) := by decide +kernel
theorem dL_law_550 : decode cL_law 550 = .ok (.aload_n 2, 1) := by decide +kernel
theorem dL_law_551 : decode cL_law 551 = .ok (.invokevirtual 91, 3) := by decide +kernel
theorem dL_law_554 : decode cL_law 554 = .ok (.if_icmp .eq 291, 3) := by decide +kernel
theorem dL_law_557 : decode cL_law 557 = .ok (.iconst 0, 1) := by decide +kernel
theorem dL_law_558 : decode cL_law 558 = .ok (.ireturn, 1) := by decide +kernel
theorem dL_law_559 : decode cL_law 559 = .ok (.aload_n 1, 1) := by decide +kernel
theorem dL_law_560 : decode cL_law 560 = .ok (.aload_n 0, 1) := by decide +kernel
theorem dL_law_561 : decode cL_law 561 = .ok (.iload_n 3, 1) := by decide +kernel
theorem dL_law_562 : decode cL_law 562 = .ok (.iconst 1, 1) := by decide +kernel
theorem dL_law_563 : decode cL_law 563 = .ok (.iadd, 1) := by decide +kernel
theorem dL_law_564 : decode cL_law 564 = .ok (.iaload, 1) := by decide +kernel
theorem dL_law_565 : decode cL_law 565 = .ok (.invokevirtual 92, 3) := by decide +kernel
theorem dL_law_568 : decode cL_law 568 = .ok (.aload_n 2, 1) := by decide +kernel
theorem dL_law_569 : decode cL_law 569 = .ok (.aload_n 0, 1) := by decide +kernel
theorem dL_law_570 : decode cL_law 570 = .ok (.iload_n 3, 1) := by decide +kernel
theorem dL_law_571 : decode cL_law 571 = .ok (.iconst 1, 1) := by decide +kernel
theorem dL_law_572 : decode cL_law 572 = .ok (.iadd, 1) := by decide +kernel
theorem dL_law_573 : decode cL_law 573 = .ok (.iaload, 1) := by decide +kernel
theorem dL_law_574 : decode cL_law 574 = .ok (.invokevirtual 95, 3) := by decide +kernel
theorem dL_law_577 : decode cL_law 577 = .ok (.if_icmp .eq 268, 3) := by decide +kernel
theorem dL_law_580 : decode cL_law 580 = .ok (.iconst 0, 1) := by decide +kernel
theorem dL_law_581 : decode cL_law 581 = .ok (.ireturn, 1) := by decide +kernel
theorem dL_law_582 : decode cL_law 582 = .ok (.aload_n 1, 1) := by decide +kernel
theorem dL_law_583 : decode cL_law 583 = .ok (.invokevirtual 96, 3) := by decide +kernel
theorem dL_law_586 : decode cL_law 586 = .ok (.aload_n 2, 1) := by decide +kernel
theorem dL_law_587 : decode cL_law 587 = .ok (.invokevirtual 99, 3) := by decide +kernel
theorem dL_law_590 : decode cL_law 590 = .ok (.if_icmp .eq 255, 3) := by decide +kernel
theorem dL_law_593 : decode cL_law 593 = .ok (.iconst 0, 1) := by decide +kernel
theorem dL_law_594 : decode cL_law 594 = .ok (.ireturn, 1) := by decide +kernel
theorem dL_law_595 : decode cL_law 595 = .ok (.aload_n 1, 1) := by decide +kernel
theorem dL_law_596 : decode cL_law 596 = .ok (.aload_n 0, 1) := by decide +kernel
theorem dL_law_597 : decode cL_law 597 = .ok (.iload_n 3, 1) := by decide +kernel
theorem dL_law_598 : decode cL_law 598 = .ok (.iconst 1, 1) := by decide +kernel
theorem dL_law_599 : decode cL_law 599 = .ok (.iadd, 1) := by decide +kernel
theorem dL_law_600 : decode cL_law 600 = .ok (.iaload, 1) := by decide +kernel
theorem dL_law_601 : decode cL_law 601 = .ok (.invokevirtual 100, 3) := by decide +kernel
theorem dL_law_604 : decode cL_law 604 = .ok (.aload_n 2, 1) := by decide +kernel
theorem dL_law_605 : decode cL_law 605 = .ok (.aload_n 0, 1) := by decide +kernel
theorem dL_law_606 : decode cL_law 606 = .ok (.iload_n 3, 1) := by decide +kernel
theorem dL_law_607 : decode cL_law 607 = .ok (.iconst 1, 1) := by decide +kernel
theorem dL_law_608 : decode cL_law 608 = .ok (.iadd, 1) := by decide +kernel
theorem dL_law_609 : decode cL_law 609 = .ok (.iaload, 1) := by decide +kernel
theorem dL_law_610 : decode cL_law 610 = .ok (.invokevirtual 103, 3) := by decide +kernel
theorem dL_law_613 : decode cL_law 613 = .ok (.if_icmp .eq 232, 3) := by decide +kernel
theorem dL_law_616 : decode cL_law 616 = .ok (.iconst 0, 1) := by decide +kernel
theorem dL_law_617 : decode cL_law 617 = .ok (.ireturn, 1) := by decide +kernel
theorem dL_law_618 : decode cL_law 618 = .ok (.aload_n 1, 1) := by decide +kernel
theorem dL_law_619 : decode cL_law 619 = .ok (.aload_n 0, 1) := by decide +kernel
theorem dL_law_620 : decode cL_law 620 = .ok (.iload_n 3, 1) := by decide +kernel
theorem dL_law_621 : decode cL_law 621 = .ok (.iconst 1, 1) := by decide +kernel
theorem dL_law_622 : decode cL_law 622 = .ok (.iadd, 1) := by decide +kernel
theorem dL_law_623 : decode cL_law 623 = .ok (.iaload, 1) := by decide +kernel
theorem dL_law_624 : decode cL_law 624 = .ok (.aload_n 0, 1) := by decide +kernel
theorem dL_law_625 : decode cL_law 625 = .ok (.iload_n 3, 1) := by decide +kernel
theorem dL_law_626 : decode cL_law 626 = .ok (.iconst 2, 1) := by decide +kernel
theorem dL_law_627 : decode cL_law 627 = .ok (.iadd, 1) := by decide +kernel
theorem dL_law_628 : decode cL_law 628 = .ok (.iaload, 1) := by decide +kernel
theorem dL_law_629 : decode cL_law 629 = .ok (.invokevirtual 104, 3) := by decide +kernel
theorem dL_law_632 : decode cL_law 632 = .ok (.aload_n 2, 1) := by decide +kernel
theorem dL_law_633 : decode cL_law 633 = .ok (.aload_n 0, 1) := by decide +kernel
theorem dL_law_634 : decode cL_law 634 = .ok (.iload_n 3, 1) := by decide +kernel
theorem dL_law_635 : decode cL_law 635 = .ok (.iconst 1, 1) := by decide +kernel
theorem dL_law_636 : decode cL_law 636 = .ok (.iadd, 1) := by decide +kernel
theorem dL_law_637 : decode cL_law 637 = .ok (.iaload, 1) := by decide +kernel
theorem dL_law_638 : decode cL_law 638 = .ok (.aload_n 0, 1) := by decide +kernel
theorem dL_law_639 : decode cL_law 639 = .ok (.iload_n 3, 1) := by decide +kernel
theorem dL_law_640 : decode cL_law 640 = .ok (.iconst 2, 1) := by decide +kernel
theorem dL_law_641 : decode cL_law 641 = .ok (.iadd, 1) := by decide +kernel
theorem dL_law_642 : decode cL_law 642 = .ok (.iaload, 1) := by decide +kernel
theorem dL_law_643 : decode cL_law 643 = .ok (.invokevirtual 107, 3) := by decide +kernel
theorem dL_law_646 : decode cL_law 646 = .ok (.if_icmp .eq 199, 3) := by decide +kernel
theorem dL_law_649 : decode cL_law 649 = .ok (.iconst 0, 1) := by decide +kernel
theorem dL_law_650 : decode cL_law 650 = .ok (.ireturn, 1) := by decide +kernel
theorem dL_law_651 : decode cL_law 651 = .ok (.aload_n 1, 1) := by decide +kernel
theorem dL_law_652 : decode cL_law 652 = .ok (.aload_n 0, 1) := by decide +kernel
theorem dL_law_653 : decode cL_law 653 = .ok (.iload_n 3, 1) := by decide +kernel
theorem dL_law_654 : decode cL_law 654 = .ok (.iconst 1, 1) := by decide +kernel
theorem dL_law_655 : decode cL_law 655 = .ok (.iadd, 1) := by decide +kernel
theorem dL_law_656 : decode cL_law 656 = .ok (.iaload, 1) := by decide +kernel
theorem dL_law_657 : decode cL_law 657 = .ok (.aload_n 0, 1) := by decide +kernel
theorem dL_law_658 : decode cL_law 658 = .ok (.iload_n 3, 1) := by decide +kernel
theorem dL_law_659 : decode cL_law 659 = .ok (.iconst 2, 1) := by decide +kernel
theorem dL_law_660 : decode cL_law 660 = .ok (.iadd, 1) := by decide +kernel
theorem dL_law_661 : decode cL_law 661 = .ok (.iaload, 1) := by decide +kernel
theorem dL_law_662 : decode cL_law 662 = .ok (.aload_n 0, 1) := by decide +kernel
theorem dL_law_663 : decode cL_law 663 = .ok (.iload_n 3, 1) := by decide +kernel
theorem dL_law_664 : decode cL_law 664 = .ok (.iconst 3, 1) := by decide +kernel
theorem dL_law_665 : decode cL_law 665 = .ok (.iadd, 1) := by decide +kernel
theorem dL_law_666 : decode cL_law 666 = .ok (.iaload, 1) := by decide +kernel
theorem dL_law_667 : decode cL_law 667 = .ok (.invokevirtual 108, 3) := by decide +kernel
theorem dL_law_670 : decode cL_law 670 = .ok (.aload_n 2, 1) := by decide +kernel
theorem dL_law_671 : decode cL_law 671 = .ok (.aload_n 0, 1) := by decide +kernel
theorem dL_law_672 : decode cL_law 672 = .ok (.iload_n 3, 1) := by decide +kernel
theorem dL_law_673 : decode cL_law 673 = .ok (.iconst 1, 1) := by decide +kernel
theorem dL_law_674 : decode cL_law 674 = .ok (.iadd, 1) := by decide +kernel
theorem dL_law_675 : decode cL_law 675 = .ok (.iaload, 1) := by decide +kernel
theorem dL_law_676 : decode cL_law 676 = .ok (.aload_n 0, 1) := by decide +kernel
theorem dL_law_677 : decode cL_law 677 = .ok (.iload_n 3, 1) := by decide +kernel
theorem dL_law_678 : decode cL_law 678 = .ok (.iconst 2, 1) := by decide +kernel
theorem dL_law_679 : decode cL_law 679 = .ok (.iadd, 1) := by decide +kernel
theorem dL_law_680 : decode cL_law 680 = .ok (.iaload, 1) := by decide +kernel
theorem dL_law_681 : decode cL_law 681 = .ok (.aload_n 0, 1) := by decide +kernel
theorem dL_law_682 : decode cL_law 682 = .ok (.iload_n 3, 1) := by decide +kernel
theorem dL_law_683 : decode cL_law 683 = .ok (.iconst 3, 1) := by decide +kernel
theorem dL_law_684 : decode cL_law 684 = .ok (.iadd, 1) := by decide +kernel
theorem dL_law_685 : decode cL_law 685 = .ok (.iaload, 1) := by decide +kernel
theorem dL_law_686 : decode cL_law 686 = .ok (.invokevirtual 112, 3) := by decide +kernel
theorem dL_law_689 : decode cL_law 689 = .ok (.if_icmp .eq 156, 3) := by decide +kernel
theorem dL_law_692 : decode cL_law 692 = .ok (.iconst 0, 1) := by decide +kernel
theorem dL_law_693 : decode cL_law 693 = .ok (.ireturn, 1) := by decide +kernel
theorem dL_law_694 : decode cL_law 694 = .ok (.aload_n 1, 1) := by decide +kernel
theorem dL_law_695 : decode cL_law 695 = .ok (.invokevirtual 113, 3) := by decide +kernel
theorem dL_law_698 : decode cL_law 698 = .ok (.aload_n 2, 1) := by decide +kernel
theorem dL_law_699 : decode cL_law 699 = .ok (.invokevirtual 116, 3) := by decide +kernel
theorem dL_law_702 : decode cL_law 702 = .ok (.if_icmp .eq 143, 3) := by decide +kernel
theorem dL_law_705 : decode cL_law 705 = .ok (.iconst 0, 1) := by decide +kernel
theorem dL_law_706 : decode cL_law 706 = .ok (.ireturn, 1) := by decide +kernel
theorem dL_law_707 : decode cL_law 707 = .ok (.aload_n 1, 1) := by decide +kernel
theorem dL_law_708 : decode cL_law 708 = .ok (.aload_n 0, 1) := by decide +kernel
theorem dL_law_709 : decode cL_law 709 = .ok (.iload_n 3, 1) := by decide +kernel
theorem dL_law_710 : decode cL_law 710 = .ok (.iconst 1, 1) := by decide +kernel
theorem dL_law_711 : decode cL_law 711 = .ok (.iadd, 1) := by decide +kernel
theorem dL_law_712 : decode cL_law 712 = .ok (.iaload, 1) := by decide +kernel
theorem dL_law_713 : decode cL_law 713 = .ok (.invokevirtual 117, 3) := by decide +kernel
theorem dL_law_716 : decode cL_law 716 = .ok (.aload_n 2, 1) := by decide +kernel
theorem dL_law_717 : decode cL_law 717 = .ok (.aload_n 0, 1) := by decide +kernel
theorem dL_law_718 : decode cL_law 718 = .ok (.iload_n 3, 1) := by decide +kernel
theorem dL_law_719 : decode cL_law 719 = .ok (.iconst 1, 1) := by decide +kernel
theorem dL_law_720 : decode cL_law 720 = .ok (.iadd, 1) := by decide +kernel
theorem dL_law_721 : decode cL_law 721 = .ok (.iaload, 1) := by decide +kernel
theorem dL_law_722 : decode cL_law 722 = .ok (.invokevirtual 120, 3) := by decide +kernel
theorem dL_law_725 : decode cL_law 725 = .ok (.if_icmp .eq 120, 3) := by decide +kernel
theorem dL_law_728 : decode cL_law 728 = .ok (.iconst 0, 1) := by decide +kernel
theorem dL_law_729 : decode cL_law 729 = .ok (.ireturn, 1) := by decide +kernel
theorem dL_law_730 : decode cL_law 730 = .ok (.aload_n 1, 1) := by decide +kernel
theorem dL_law_731 : decode cL_law 731 = .ok (.aload_n 0, 1) := by decide +kernel
theorem dL_law_732 : decode cL_law 732 = .ok (.iload_n 3, 1) := by decide +kernel
theorem dL_law_733 : decode cL_law 733 = .ok (.iconst 1, 1) := by decide +kernel
theorem dL_law_734 : decode cL_law 734 = .ok (.iadd, 1) := by decide +kernel
theorem dL_law_735 : decode cL_law 735 = .ok (.iaload, 1) := by decide +kernel
theorem dL_law_736 : decode cL_law 736 = .ok (.invokevirtual 121, 3) := by decide +kernel
theorem dL_law_739 : decode cL_law 739 = .ok (.aload_n 2, 1) := by decide +kernel
theorem dL_law_740 : decode cL_law 740 = .ok (.aload_n 0, 1) := by decide +kernel
theorem dL_law_741 : decode cL_law 741 = .ok (.iload_n 3, 1) := by decide +kernel
theorem dL_law_742 : decode cL_law 742 = .ok (.iconst 1, 1) := by decide +kernel
theorem dL_law_743 : decode cL_law 743 = .ok (.iadd, 1) := by decide +kernel
theorem dL_law_744 : decode cL_law 744 = .ok (.iaload, 1) := by decide +kernel
theorem dL_law_745 : decode cL_law 745 = .ok (.invokevirtual 124, 3) := by decide +kernel
theorem dL_law_748 : decode cL_law 748 = .ok (.if_icmp .eq 97, 3) := by decide +kernel
theorem dL_law_751 : decode cL_law 751 = .ok (.iconst 0, 1) := by decide +kernel
theorem dL_law_752 : decode cL_law 752 = .ok (.ireturn, 1) := by decide +kernel
theorem dL_law_753 : decode cL_law 753 = .ok (.aload_n 1, 1) := by decide +kernel
theorem dL_law_754 : decode cL_law 754 = .ok (.aload_n 0, 1) := by decide +kernel
theorem dL_law_755 : decode cL_law 755 = .ok (.iload_n 3, 1) := by decide +kernel
theorem dL_law_756 : decode cL_law 756 = .ok (.iconst 1, 1) := by decide +kernel
theorem dL_law_757 : decode cL_law 757 = .ok (.iadd, 1) := by decide +kernel
theorem dL_law_758 : decode cL_law 758 = .ok (.iaload, 1) := by decide +kernel
theorem dL_law_759 : decode cL_law 759 = .ok (.aload_n 0, 1) := by decide +kernel
theorem dL_law_760 : decode cL_law 760 = .ok (.iload_n 3, 1) := by decide +kernel
theorem dL_law_761 : decode cL_law 761 = .ok (.iconst 2, 1) := by decide +kernel
theorem dL_law_762 : decode cL_law 762 = .ok (.iadd, 1) := by decide +kernel
theorem dL_law_763 : decode cL_law 763 = .ok (.iaload, 1) := by decide +kernel
theorem dL_law_764 : decode cL_law 764 = .ok (.aload_n 0, 1) := by decide +kernel
theorem dL_law_765 : decode cL_law 765 = .ok (.iload_n 3, 1) := by decide +kernel
theorem dL_law_766 : decode cL_law 766 = .ok (.iconst 3, 1) := by decide +kernel
theorem dL_law_767 : decode cL_law 767 = .ok (.iadd, 1) := by decide +kernel
theorem dL_law_768 : decode cL_law 768 = .ok (.iaload, 1) := by decide +kernel
theorem dL_law_769 : decode cL_law 769 = .ok (.invokevirtual 125, 3) := by decide +kernel
theorem dL_law_772 : decode cL_law 772 = .ok (.aload_n 2, 1) := by decide +kernel
theorem dL_law_773 : decode cL_law 773 = .ok (.aload_n 0, 1) := by decide +kernel
theorem dL_law_774 : decode cL_law 774 = .ok (.iload_n 3, 1) := by decide +kernel
theorem dL_law_775 : decode cL_law 775 = .ok (.iconst 1, 1) := by decide +kernel
theorem dL_law_776 : decode cL_law 776 = .ok (.iadd, 1) := by decide +kernel
theorem dL_law_777 : decode cL_law 777 = .ok (.iaload, 1) := by decide +kernel
theorem dL_law_778 : decode cL_law 778 = .ok (.aload_n 0, 1) := by decide +kernel
theorem dL_law_779 : decode cL_law 779 = .ok (.iload_n 3, 1) := by decide +kernel
theorem dL_law_780 : decode cL_law 780 = .ok (.iconst 2, 1) := by decide +kernel
theorem dL_law_781 : decode cL_law 781 = .ok (.iadd, 1) := by decide +kernel
theorem dL_law_782 : decode cL_law 782 = .ok (.iaload, 1) := by decide +kernel
theorem dL_law_783 : decode cL_law 783 = .ok (.aload_n 0, 1) := by decide +kernel
theorem dL_law_784 : decode cL_law 784 = .ok (.iload_n 3, 1) := by decide +kernel
theorem dL_law_785 : decode cL_law 785 = .ok (.iconst 3, 1) := by decide +kernel
theorem dL_law_786 : decode cL_law 786 = .ok (.iadd, 1) := by decide +kernel
theorem dL_law_787 : decode cL_law 787 = .ok (.iaload, 1) := by decide +kernel
theorem dL_law_788 : decode cL_law 788 = .ok (.invokevirtual 128, 3) := by decide +kernel
theorem dL_law_791 : decode cL_law 791 = .ok (.if_icmp .eq 54, 3) := by decide +kernel
theorem dL_law_794 : decode cL_law 794 = .ok (.iconst 0, 1) := by decide +kernel
theorem dL_law_795 : decode cL_law 795 = .ok (.ireturn, 1) := by decide +kernel
theorem dL_law_796 : decode cL_law 796 = .ok (.aload_n 1, 1) := by decide +kernel
theorem dL_law_797 : decode cL_law 797 = .ok (.invokevirtual 129, 3) := by decide +kernel
theorem dL_law_800 : decode cL_law 800 = .ok (.aload_n 2, 1) := by decide +kernel
theorem dL_law_801 : decode cL_law 801 = .ok (.invokevirtual 132, 3) := by decide +kernel
theorem dL_law_804 : decode cL_law 804 = .ok (.if_icmp .eq 41, 3) := by decide +kernel
theorem dL_law_807 : decode cL_law 807 = .ok (.iconst 0, 1) := by decide +kernel
theorem dL_law_808 : decode cL_law 808 = .ok (.ireturn, 1) := by decide +kernel
theorem dL_law_809 : decode cL_law 809 = .ok (.aload_n 1, 1) := by decide +kernel
theorem dL_law_810 : decode cL_law 810 = .ok (.invokevirtual 133, 3) := by decide +kernel
theorem dL_law_813 : decode cL_law 813 = .ok (.aload_n 2, 1) := by decide +kernel
theorem dL_law_814 : decode cL_law 814 = .ok (.invokevirtual 136, 3) := by decide +kernel
theorem dL_law_817 : decode cL_law 817 = .ok (.if_icmp .eq 28, 3) := by decide +kernel
theorem dL_law_820 : decode cL_law 820 = .ok (.iconst 0, 1) := by decide +kernel
theorem dL_law_821 : decode cL_law 821 = .ok (.ireturn, 1) := by decide +kernel
theorem dL_law_822 : decode cL_law 822 = .ok (.aload_n 1, 1) := by decide +kernel
theorem dL_law_823 : decode cL_law 823 = .ok (.aload_n 0, 1) := by decide +kernel
theorem dL_law_824 : decode cL_law 824 = .ok (.iload_n 3, 1) := by decide +kernel
theorem dL_law_825 : decode cL_law 825 = .ok (.iconst 1, 1) := by decide +kernel
theorem dL_law_826 : decode cL_law 826 = .ok (.iadd, 1) := by decide +kernel
theorem dL_law_827 : decode cL_law 827 = .ok (.iaload, 1) := by decide +kernel
theorem dL_law_828 : decode cL_law 828 = .ok (.invokevirtual 137, 3) := by decide +kernel
theorem dL_law_831 : decode cL_law 831 = .ok (.aload_n 2, 1) := by decide +kernel
theorem dL_law_832 : decode cL_law 832 = .ok (.aload_n 0, 1) := by decide +kernel
theorem dL_law_833 : decode cL_law 833 = .ok (.iload_n 3, 1) := by decide +kernel
theorem dL_law_834 : decode cL_law 834 = .ok (.iconst 1, 1) := by decide +kernel
theorem dL_law_835 : decode cL_law 835 = .ok (.iadd, 1) := by decide +kernel
theorem dL_law_836 : decode cL_law 836 = .ok (.iaload, 1) := by decide +kernel
theorem dL_law_837 : decode cL_law 837 = .ok (.invokevirtual 140, 3) := by decide +kernel
theorem dL_law_840 : decode cL_law 840 = .ok (.if_icmp .eq 5, 3) := by decide +kernel
theorem dL_law_843 : decode cL_law 843 = .ok (.iconst 0, 1) := by decide +kernel
theorem dL_law_844 : decode cL_law 844 = .ok (.ireturn, 1) := by decide +kernel
theorem dL_law_845 : decode cL_law 845 = .ok (.iinc 3 4, 3) := by decide +kernel
theorem dL_law_848 : decode cL_law 848 = .ok (.goto (-830), 3) := by decide +kernel
theorem dL_law_851 : decode cL_law 851 = .ok (.iconst 1, 1) := by decide +kernel
theorem dL_law_852 : decode cL_law 852 = .ok (.ireturn, 1) := by decide +kernel
abbrev vwCl : List vw_C := [(RX0, TX0, 9), (RX1, TX1, 4), (RX2, TX2, 4), (RX3, TX3, 11), (RX4, TX4, 17), (RX5, TX5, 21)]
end
section
/-! THE ABSTRACT MACHINE IS TRUE OF THE REAL ONE: what a step of the code asks, kind by kind -/
-- TABLES OF THE METHODS, printed
def mY : Nat → MethodName := fun m => match m with
  | 0 => yX0_clear
  | 1 => yX0_copyFrom
  | 2 => yX0_addInstrument
  | 3 => yX0_addBar
  | 4 => yX0_toldSet
  | 5 => yX0_addSeat
  | 6 => yX0_addGap
  | 7 => yX0_hasAllItNames
  | 8 => yX0_seatAll
  | 9 => yX1_lookAround
  | 10 => yX1_comeAnyway
  | 11 => yX1_comeAfter
  | 12 => yJ6_bitCount_0f7a4
  | 13 => yX1_playAll
  | 14 => yX2_append
  | 15 => yX2_numbersBehind
  | 16 => yX2_letterAt
  | 17 => yX2_isFigure
  | 18 => yX2_figuresAt
  | 19 => yX2_numberAt
  | 20 => yX2_endOfItem
  | 21 => yX2_takeItem
  | 22 => yX2_readAll
  | 23 => yJ7_fill_53178
  | 24 => yX3_begin
  | 25 => yX3_changesToTrial
  | 26 => yX3_soundsAlike
  | 27 => yX4_swapSeats
  | 28 => yX3_goToNextSeating
  | 29 => yX3_lookAtAll
  | 30 => yX4_settle
  | 31 => yX4_layText
  | 32 => yX4_init
  | 33 => yX4_write
  | 34 => yX4_wipe
  | 35 => yX4_fault
  | 36 => yX4_lay
  | 37 => yX4_isInstrument
  | 38 => yX4_seatOf
  | 39 => yX4_instrument
  | 40 => yX4_seat
  | 41 => yX4_isBar
  | 42 => yX4_asked
  | 43 => yX4_plays
  | 44 => yX4_missingIn
  | 45 => yX4_missing
  | 46 => yX4_first
  | 47 => yX4_notes
  | 48 => yX4_remember
  | 49 => yX4_change
  | 50 => yX4_priceOf
  | 51 => yX4_bribe
  | 52 => yX4_undo
  | 53 => yX4_surveyed
  | 54 => yX4_best
  | 55 => yX4_changes
  | 56 => yX4_help
  | 57 => yX4_bribes
  | 58 => yX4_rests
  | 59 => yX4_silence
  | 60 => yX4_alike
  | 61 => yX4_inLowestTerms
  | 62 => yX4_odds
  | 63 => yX4_atLeast
  | 64 => yX4_heard
  | 65 => yX4_forget
  | 66 => yX4_agreesWithHeard
  | 67 => yX4_kinds
  | 68 => yX4_hall
  | 69 => yX4_draw
  | 70 => yX4_tour
  | 71 => yX4_keep
  | 72 => yX4_back
  | 73 => yX4_count
  | 74 => yX5_begins
  | 75 => yX5_adds
  | 76 => yX5_sits
  | 77 => yX5_lays
  | 78 => yX5_init
  | 79 => yX5_in
  | 80 => yX5_isOne
  | 81 => yX5_isBar
  | 82 => yX5_ones
  | 83 => yX5_write
  | 84 => yX5_wipe
  | 85 => yX5_letterAt
  | 86 => yX5_isFigure
  | 87 => yX5_number
  | 88 => yX5_readsItem
  | 89 => yX5_reads
  | 90 => yX5_fault
  | 91 => yX5_lay
  | 92 => yX5_asItIs
  | 93 => yX5_wants
  | 94 => yX5_askedIn
  | 95 => yX5_goes
  | 96 => yX5_seatOf
  | 97 => yX5_instrument
  | 98 => yX5_seat
  | 99 => yX5_asked
  | 100 => yX5_plays
  | 101 => yX5_missing
  | 102 => yX5_first
  | 103 => yX5_notes
  | 104 => yX5_keeps
  | 105 => yX5_change
  | 106 => yX5_costOf
  | 107 => yX5_bribe
  | 108 => yX5_undo
  | 109 => yX5_firstSeating
  | 110 => yX5_swaps
  | 111 => yX5_nextSeating
  | 112 => yX5_best
  | 113 => yX5_far
  | 114 => yX5_changes
  | 115 => yX5_help
  | 116 => yX5_bribes
  | 117 => yX5_rests
  | 118 => yX5_silence
  | 119 => yX5_alike
  | 120 => yX5_share
  | 121 => yX5_odds
  | 122 => yX5_atLeast
  | 123 => yX5_heard
  | 124 => yX5_forget
  | 125 => yX5_kinds
  | 126 => yX5_hall
  | 127 => yX5_tour
  | 128 => yX5_keep
  | 129 => yX5_back
  | 130 => yX5_count
  | 131 => x
  | _ => x
def mB : Nat → ByteArray := fun m => match m with
  | 0 => cX0_clear
  | 1 => cX0_copyFrom
  | 2 => cX0_addInstrument
  | 3 => cX0_addBar
  | 4 => cX0_toldSet
  | 5 => cX0_addSeat
  | 6 => cX0_addGap
  | 7 => cX0_hasAllItNames
  | 8 => cX0_seatAll
  | 9 => cX1_lookAround
  | 10 => cX1_comeAnyway
  | 11 => cX1_comeAfter
  | 12 => cJ6_bitCount_0f7a4
  | 13 => cX1_playAll
  | 14 => cX2_append
  | 15 => cX2_numbersBehind
  | 16 => cX2_letterAt
  | 17 => cX2_isFigure
  | 18 => cX2_figuresAt
  | 19 => cX2_numberAt
  | 20 => cX2_endOfItem
  | 21 => cX2_takeItem
  | 22 => cX2_readAll
  | 23 => cJ7_fill_53178
  | 24 => cX3_begin
  | 25 => cX3_changesToTrial
  | 26 => cX3_soundsAlike
  | 27 => cX4_swapSeats
  | 28 => cX3_goToNextSeating
  | 29 => cX3_lookAtAll
  | 30 => cX4_settle
  | 31 => cX4_layText
  | 32 => cX4_init
  | 33 => cX4_write
  | 34 => cX4_wipe
  | 35 => cX4_fault
  | 36 => cX4_lay
  | 37 => cX4_isInstrument
  | 38 => cX4_seatOf
  | 39 => cX4_instrument
  | 40 => cX4_seat
  | 41 => cX4_isBar
  | 42 => cX4_asked
  | 43 => cX4_plays
  | 44 => cX4_missingIn
  | 45 => cX4_missing
  | 46 => cX4_first
  | 47 => cX4_notes
  | 48 => cX4_remember
  | 49 => cX4_change
  | 50 => cX4_priceOf
  | 51 => cX4_bribe
  | 52 => cX4_undo
  | 53 => cX4_surveyed
  | 54 => cX4_best
  | 55 => cX4_changes
  | 56 => cX4_help
  | 57 => cX4_bribes
  | 58 => cX4_rests
  | 59 => cX4_silence
  | 60 => cX4_alike
  | 61 => cX4_inLowestTerms
  | 62 => cX4_odds
  | 63 => cX4_atLeast
  | 64 => cX4_heard
  | 65 => cX4_forget
  | 66 => cX4_agreesWithHeard
  | 67 => cX4_kinds
  | 68 => cX4_hall
  | 69 => cX4_draw
  | 70 => cX4_tour
  | 71 => cX4_keep
  | 72 => cX4_back
  | 73 => cX4_count
  | 74 => cX5_begins
  | 75 => cX5_adds
  | 76 => cX5_sits
  | 77 => cX5_lays
  | 78 => cX5_init
  | 79 => cX5_in
  | 80 => cX5_isOne
  | 81 => cX5_isBar
  | 82 => cX5_ones
  | 83 => cX5_write
  | 84 => cX5_wipe
  | 85 => cX5_letterAt
  | 86 => cX5_isFigure
  | 87 => cX5_number
  | 88 => cX5_readsItem
  | 89 => cX5_reads
  | 90 => cX5_fault
  | 91 => cX5_lay
  | 92 => cX5_asItIs
  | 93 => cX5_wants
  | 94 => cX5_askedIn
  | 95 => cX5_goes
  | 96 => cX5_seatOf
  | 97 => cX5_instrument
  | 98 => cX5_seat
  | 99 => cX5_asked
  | 100 => cX5_plays
  | 101 => cX5_missing
  | 102 => cX5_first
  | 103 => cX5_notes
  | 104 => cX5_keeps
  | 105 => cX5_change
  | 106 => cX5_costOf
  | 107 => cX5_bribe
  | 108 => cX5_undo
  | 109 => cX5_firstSeating
  | 110 => cX5_swaps
  | 111 => cX5_nextSeating
  | 112 => cX5_best
  | 113 => cX5_far
  | 114 => cX5_changes
  | 115 => cX5_help
  | 116 => cX5_bribes
  | 117 => cX5_rests
  | 118 => cX5_silence
  | 119 => cX5_alike
  | 120 => cX5_share
  | 121 => cX5_odds
  | 122 => cX5_atLeast
  | 123 => cX5_heard
  | 124 => cX5_forget
  | 125 => cX5_kinds
  | 126 => cX5_hall
  | 127 => cX5_tour
  | 128 => cX5_keep
  | 129 => cX5_back
  | 130 => cX5_count
  | 131 => code
  | _ => code
def mRet : Nat → Option FieldType := fun m => match m with
  | 0 => none
  | 1 => none
  | 2 => (some .boolean)
  | 3 => (some .boolean)
  | 4 => (some .int)
  | 5 => (some .boolean)
  | 6 => (some .boolean)
  | 7 => (some .boolean)
  | 8 => none
  | 9 => none
  | 10 => (some .int)
  | 11 => (some .int)
  | 12 => (some .int)
  | 13 => none
  | 14 => (some .boolean)
  | 15 => (some .int)
  | 16 => (some .char)
  | 17 => (some .boolean)
  | 18 => (some .int)
  | 19 => (some .int)
  | 20 => (some .int)
  | 21 => (some .boolean)
  | 22 => (some .int)
  | 23 => none
  | 24 => none
  | 25 => (some .int)
  | 26 => (some .boolean)
  | 27 => none
  | 28 => none
  | 29 => none
  | 30 => none
  | 31 => (some .boolean)
  | 32 => none
  | 33 => (some .int)
  | 34 => (some .int)
  | 35 => (some .int)
  | 36 => (some .int)
  | 37 => (some .boolean)
  | 38 => (some .int)
  | 39 => (some .int)
  | 40 => (some .int)
  | 41 => (some .boolean)
  | 42 => (some .int)
  | 43 => (some .int)
  | 44 => (some .int)
  | 45 => (some .int)
  | 46 => (some .int)
  | 47 => (some .int)
  | 48 => none
  | 49 => (some .int)
  | 50 => (some .int)
  | 51 => (some .int)
  | 52 => (some .int)
  | 53 => (some (.object "SecondOboe$Survey"))
  | 54 => (some .int)
  | 55 => (some .int)
  | 56 => (some .int)
  | 57 => (some .int)
  | 58 => (some .int)
  | 59 => (some .int)
  | 60 => (some .int)
  | 61 => (some .int)
  | 62 => (some .int)
  | 63 => (some .int)
  | 64 => (some .int)
  | 65 => (some .int)
  | 66 => (some .boolean)
  | 67 => (some .int)
  | 68 => (some .int)
  | 69 => (some .int)
  | 70 => (some .int)
  | 71 => (some .int)
  | 72 => (some .int)
  | 73 => (some .int)
  | 74 => none
  | 75 => none
  | 76 => none
  | 77 => none
  | 78 => none
  | 79 => (some .boolean)
  | 80 => (some .boolean)
  | 81 => (some .boolean)
  | 82 => (some .int)
  | 83 => (some .int)
  | 84 => (some .int)
  | 85 => (some .int)
  | 86 => (some .boolean)
  | 87 => (some .int)
  | 88 => (some .boolean)
  | 89 => (some .int)
  | 90 => (some .int)
  | 91 => (some .int)
  | 92 => none
  | 93 => (some .boolean)
  | 94 => (some .int)
  | 95 => (some .int)
  | 96 => (some .int)
  | 97 => (some .int)
  | 98 => (some .int)
  | 99 => (some .int)
  | 100 => (some .int)
  | 101 => (some .int)
  | 102 => (some .int)
  | 103 => (some .int)
  | 104 => none
  | 105 => (some .int)
  | 106 => (some .int)
  | 107 => (some .int)
  | 108 => (some .int)
  | 109 => none
  | 110 => none
  | 111 => (some .boolean)
  | 112 => (some .int)
  | 113 => (some .int)
  | 114 => (some .int)
  | 115 => (some .int)
  | 116 => (some .int)
  | 117 => (some .int)
  | 118 => (some .int)
  | 119 => (some .int)
  | 120 => (some .int)
  | 121 => (some .int)
  | 122 => (some .int)
  | 123 => (some .int)
  | 124 => (some .int)
  | 125 => (some .int)
  | 126 => (some .int)
  | 127 => (some .int)
  | 128 => (some .int)
  | 129 => (some .int)
  | 130 => (some .int)
  | 131 => (some .boolean)
  | _ => none
def mRkL : List Nat := [0, 0, 1, 1, 1, 1, 1, 1, 0, 0, 1, 1, 1, 0, 1, 1, 1, 1, 1, 1, 1, 1, 1, 0, 0, 1, 1, 0, 0, 0, 0, 1, 0, 1, 1, 1, 1, 1, 1, 1, 1, 1, 1, 1, 1, 1, 1, 1, 0, 1, 1, 1, 1, 2, 1, 1, 1, 1, 1, 1, 1, 1, 1, 1, 1, 1, 1, 1, 1, 1, 1, 1, 1, 1, 0, 0, 0, 0, 0, 1, 1, 1, 1, 1, 1, 1, 1, 1, 1, 1, 1, 1, 0, 1, 1, 1, 1, 1, 1, 1, 1, 1, 1, 1, 0, 1, 1, 1, 1, 0, 0, 1, 1, 1, 1, 1, 1, 1, 1, 1, 1, 1, 1, 1, 1, 1, 1, 1, 1, 1, 1, 1]
def mRk (m : Nat) : Nat := mRkL.getD m 0
def mFrL : List Nat := [0, 1, 0, 0, 0, 1, 0, 0, 1, 0, 0, 0, 0, 1, 0, 0, 0, 0, 1, 1, 2, 2, 3, 0, 1, 0, 0, 0, 1, 2, 2, 4, 7, 1, 0, 4, 5, 0, 0, 1, 1, 0, 1, 1, 0, 1, 1, 0, 1, 3, 0, 3, 3, 3, 4, 4, 2, 2, 1, 2, 4, 0, 4, 4, 1, 0, 0, 2, 2, 0, 2, 1, 3, 1, 0, 0, 0, 1, 2, 0, 1, 1, 0, 1, 0, 0, 1, 2, 3, 4, 5, 5, 0, 0, 0, 1, 0, 2, 2, 2, 2, 3, 2, 2, 0, 2, 0, 2, 0, 0, 0, 1, 2, 1, 2, 2, 2, 2, 2, 2, 2, 3, 3, 2, 0, 2, 2, 2, 0, 0, 1, 6]
def mFr (m : Nat) : Nat := mFrL.getD m 0
def mLoL : List Nat := [0, 26, 0, 0, 0, 22, 0, 0, 26, 0, 0, 0, 0, 27, 0, 0, 0, 0, 21, 21, 44, 43, 70, 0, 23, 0, 0, 0, 23, 56, 56, 92, 120, 21, 0, 92, 112, 0, 0, 22, 21, 0, 21, 21, 0, 21, 21, 0, 26, 76, 0, 76, 76, 82, 102, 102, 56, 56, 21, 56, 102, 0, 102, 102, 21, 0, 0, 56, 56, 0, 56, 26, 76, 20, 0, 0, 0, 23, 44, 0, 22, 22, 0, 22, 0, 0, 22, 42, 66, 90, 111, 111, 0, 0, 0, 24, 0, 49, 43, 43, 49, 70, 49, 49, 0, 43, 0, 43, 0, 0, 0, 23, 49, 23, 49, 49, 49, 49, 49, 49, 49, 77, 77, 43, 0, 49, 49, 49, 0, 0, 22, 133]
def mLo (m : Nat) : Nat := mLoL.getD m 0
def mLgL : List (List Nat) := [[], [], [], [], [], [], [], [], [], [], [], [], [], [], [], [], [], [], [], [], [], [], [], [], [], [], [], [], [], [], [], [], [], [], [], [], [], [], [], [], [], [], [], [], [], [], [], [], [], [], [], [], [], [], [], [], [], [], [], [], [], [], [], [], [], [], [], [], [], [2], [], [], [], [], [], [], [], [], [], [], [], [], [], [], [], [], [], [], [], [], [], [], [], [], [], [], [], [], [], [], [], [], [], [], [], [], [], [], [], [], [], [], [], [], [], [], [], [], [], [], [], [], [], [], [], [], [], [7], [], [], [], []]
def mLg (m : Nat) : List Nat := mLgL.getD m []
def refL : List (List Bool) := [[true, true, true, false, true, false, true, false, false], [true, true, false, false], [true, false, true, true], [false, false, false, false, false, false, true, true, true, true, true], [true, true, true, false, true, true, true, true, true, false, true, true, true, false, true, true, false], [true, false, true, true, true, true, false, true, false, true, false, false, true, true, true, true, false, false, false, false, true]]
def isR (c k : Nat) : Bool := (refL.getD c []).getD k false
def nfL : List Nat := [9, 4, 4, 11, 17, 21]
def nf (c : Nat) : Nat := nfL.getD c 0
def mNL : List Nat := [1, 2, 4, 3, 1, 2, 2, 1, 2, 4, 3, 4, 1, 6, 2, 1, 2, 1, 2, 3, 2, 2, 1, 2, 3, 2, 3, 3, 2, 5, 1, 1, 1, 2, 1, 1, 1, 2, 2, 3, 2, 2, 2, 2, 2, 2, 1, 2, 2, 3, 2, 2, 1, 1, 2, 1, 2, 2, 1, 2, 1, 3, 2, 3, 4, 1, 3, 2, 2, 2, 4, 1, 1, 2, 1, 4, 2, 1, 1, 3, 2, 2, 1, 2, 1, 2, 1, 3, 2, 1, 1, 1, 1, 4, 2, 1, 2, 3, 2, 2, 2, 2, 1, 2, 1, 3, 2, 2, 1, 1, 3, 1, 2, 1, 1, 2, 2, 1, 2, 1, 3, 2, 3, 4, 1, 2, 2, 4, 1, 1, 2, 1]
def mN (m : Nat) : Nat := mNL.getD m 0
def lawN : Nat := 131

def gwl : List Cond := lw_tbl.filter goodWord
theorem gw_in {w : Cond} (h : w ∈ lw_tbl) (g : goodWord w = true) : w ∈ gwl := List.mem_filter.mpr ⟨h, g⟩
theorem gw_good {ws : List Cond} (h : ∀ w ∈ ws, w ∈ gwl) : GoodIn gwl ws := fun w hw => ⟨h w hw, good_of_word (List.mem_filter.mp (h w hw)).2⟩
def mW (m : Nat) : List Cond := Cond.code (mY m) (mB m) (nlm m) (mRet m) :: gwl
def mRm (m : Nat) : Room := { frames := mFr m, cells := 0, slots := 0, locals := mLo m }
def nestW : Cond := .methodLinkNest "SecondOboe$Survey" 109 ⟨"SecondOboe", "swapSeats", "([III)V"⟩ "SecondOboe"
-- values
def cv (adr : Nat → Nat) : AV → Option Value
  | .inl x => some (.int (Int32.ofInt x))
  | .inr (.inl p) => some (.ref (adr p))
  | .inr (.inr (.inl x)) => some (.long (Int64.ofInt x))
  | .inr (.inr (.inr _)) => none
def cvD (adr : Nat → Nat) : AV → Value
  | .inl x => .int (Int32.ofInt x)
  | .inr (.inl p) => .ref (adr p)
  | .inr (.inr (.inl x)) => .long (Int64.ofInt x)
  | .inr (.inr (.inr _)) => .null
def stk (adr : Nat → Nat) (st : List AV) : List Value := st.map (cvD adr)
def lmap (adr : Nat → Nat) : Nat → List AV → List (Nat × Value)
  | _, [] => []
  | i, v :: r => match cv adr v with
    | some w => (i, w) :: lmap adr (i + 1) r
    | none => lmap adr (i + 1) r
theorem lmap_mem (adr : Nat → Nat) : ∀ (ls : List AV) (o i : Nat) (w : Value), (i, w) ∈ lmap adr o ls ↔ ∃ v, o ≤ i ∧ ls[i - o]? = some v ∧ cv adr v = some w
  | [], o, i, w => by simp [lmap]
  | v :: r, o, i, w => by
    have ih := lmap_mem adr r (o + 1) i w
    have key : (∃ v', o ≤ i ∧ (v :: r)[i - o]? = some v' ∧ cv adr v' = some w) ↔ (i = o ∧ cv adr v = some w) ∨ ∃ v', o + 1 ≤ i ∧ r[i - (o + 1)]? = some v' ∧ cv adr v' = some w := by
      constructor
      · rintro ⟨v', h1, h2, h3⟩
        rcases Nat.eq_or_lt_of_le h1 with e | e
        · subst e
          rw [Nat.sub_self] at h2
          cases h2
          exact Or.inl ⟨rfl, h3⟩
        · refine Or.inr ⟨v', e, ?_, h3⟩
          rw [show i - o = (i - (o + 1)) + 1 by omega] at h2
          exact h2
      · rintro (⟨rfl, h⟩ | ⟨v', h1, h2, h3⟩)
        · exact ⟨v, Nat.le_refl _, by rw [Nat.sub_self]; rfl, h⟩
        · refine ⟨v', by omega, ?_, h3⟩
          rw [show i - o = (i - (o + 1)) + 1 by omega]
          exact h2
    have e : lmap adr o (v :: r) = match cv adr v with
      | some w => (o, w) :: lmap adr (o + 1) r
      | none => lmap adr (o + 1) r := rfl
    rw [key, ← ih, e]
    cases hc : cv adr v with
    | none => simp
    | some w' =>
      simp only [List.mem_cons, Prod.mk.injEq, Option.some.injEq]
      constructor
      · rintro (⟨a, b⟩ | h)
        · exact Or.inl ⟨a, b.symm⟩
        · exact Or.inr h
      · rintro (⟨a, b⟩ | h)
        · exact Or.inl ⟨a, b.symm⟩
        · exact Or.inr h
theorem lmap_at {adr : Nat → Nat} {ls : List AV} {i : Nat} {w : Value} : (i, w) ∈ lmap adr 0 ls ↔ ∃ v, ls[i]? = some v ∧ cv adr v = some w := by
  rw [lmap_mem]
  simp
theorem lv_mono {lsA : Array Slot} {n : Nat} {l l' : List (Nat × Value)} (h : lv_has lsA n l) (hm : ∀ q ∈ l', q ∈ l) : lv_has lsA n l' := ⟨h.1, h.2.1, fun q hq => h.2.2 q (hm q hq)⟩
-- cells
def cE (adr : Nat → Nat) (cI cC cG : ClassId) (σ : Sg) (p : Nat) : va_E :=
  if kd p = 10 then .inl (cI, ln p, .inl (fun j => Int32.ofInt (σ p j)))
  else if kd p = 11 then .inl (cC, ln p, .inl (fun j => Int32.ofInt (σ p j)))
  else if kd p = 12 then .inl (cG, ln p, .inr (.inr (.inr (.inr (fun j => some (adr (lk p j)))))))
  else .inr (kd p, (List.range (nf (kd p))).map (fun k => if isR (kd p) k = true then Value.ref (adr (lk p k)) else Value.int (Int32.ofInt (σ p k))))
def cs (N : Nat) (adr : Nat → Nat) (cI cC cG : ClassId) (σ : Sg) : va_W := (List.range N).map (fun p => (adr p, cE adr cI cC cG σ p))
def tys3 (cI cC cG : ClassId) : List (ClassId × FieldType) := [(cI, .int), (cC, .char), (cG, .array .int)]
theorem cs_at {N : Nat} {adr : Nat → Nat} {cI cC cG : ClassId} {σ : Sg} {p : Nat} (h : p < N) : (cs N adr cI cC cG σ)[p]? = some (adr p, cE adr cI cC cG σ p) := by
  unfold cs
  rw [List.getElem?_map, List.getElem?_range h]
  rfl
theorem cs_of {N : Nat} {adr : Nat → Nat} {cI cC cG : ClassId} {σ : Sg} {p : Nat} {q : Nat × va_E} (h : (cs N adr cI cC cG σ)[p]? = some q) : p < N ∧ q = (adr p, cE adr cI cC cG σ p) := by
  rcases Nat.lt_or_ge p N with g | g
  · rw [cs_at g] at h
    exact ⟨g, (Option.some.inj h).symm⟩
  · have : (cs N adr cI cC cG σ)[p]? = none := List.getElem?_eq_none (by unfold cs; rw [List.length_map, List.length_range]; exact g)
    rw [this] at h
    cases h
theorem cE_i {adr : Nat → Nat} {cI cC cG : ClassId} {σ : Sg} {p : Nat} (h : kd p = 10) : cE adr cI cC cG σ p = .inl (cI, ln p, .inl (fun j => Int32.ofInt (σ p j))) := if_pos h
theorem cE_c {adr : Nat → Nat} {cI cC cG : ClassId} {σ : Sg} {p : Nat} (h : kd p = 11) : cE adr cI cC cG σ p = .inl (cC, ln p, .inl (fun j => Int32.ofInt (σ p j))) := by
  unfold cE
  rw [if_neg (by omega), if_pos h]
theorem cE_g {adr : Nat → Nat} {cI cC cG : ClassId} {σ : Sg} {p : Nat} (h : kd p = 12) : cE adr cI cC cG σ p = .inl (cG, ln p, .inr (.inr (.inr (.inr (fun j => some (adr (lk p j))))))) := by
  unfold cE
  rw [if_neg (by omega), if_neg (by omega), if_pos h]
def fsO (adr : Nat → Nat) (σ : Sg) (p c : Nat) : List Value := (List.range (nf c)).map (fun k => if isR c k = true then Value.ref (adr (lk p k)) else Value.int (Int32.ofInt (σ p k)))
theorem cE_o {adr : Nat → Nat} {cI cC cG : ClassId} {σ : Sg} {p c : Nat} (h : kd p = c) (hc : c < 10) : cE adr cI cC cG σ p = .inr (c, fsO adr σ p c) := by
  unfold cE
  subst h
  rw [if_neg (by omega), if_neg (by omega), if_neg (by omega)]
  rfl
theorem fsO_at {adr : Nat → Nat} {σ : Sg} {p c k : Nat} (h : k < nf c) : (fsO adr σ p c)[k]? = some (if isR c k = true then Value.ref (adr (lk p k)) else Value.int (Int32.ofInt (σ p k))) := by
  unfold fsO
  rw [List.getElem?_map, List.getElem?_range h]
  rfl
theorem fsO_len {adr : Nat → Nat} {σ : Sg} {p c : Nat} : (fsO adr σ p c).length = nf c := by
  unfold fsO
  rw [List.length_map, List.length_range]
theorem cE_same {adr : Nat → Nat} {cI cC cG : ClassId} {σ σ' : Sg} {p : Nat} (h : σ' p = σ p) : cE adr cI cC cG σ' p = cE adr cI cC cG σ p := by
  unfold cE
  rw [h]
theorem cs_set {N : Nat} {adr : Nat → Nat} {cI cC cG : ClassId} {σ σ' : Sg} {p : Nat} {e : va_E} (hp : p < N) (h : ∀ q, q ≠ p → σ' q = σ q) (he : e = cE adr cI cC cG σ' p) : (cs N adr cI cC cG σ).set p (adr p, e) = cs N adr cI cC cG σ' := by
  have hl : p < (cs N adr cI cC cG σ).length := by unfold cs; rw [List.length_map, List.length_range]; exact hp
  apply List.ext_getElem?
  intro i
  by_cases hi : i = p
  · subst hi
    rw [List.getElem?_set_self hl, cs_at hp, he]
  · rw [List.getElem?_set_ne (Ne.symm hi)]
    rcases Nat.lt_or_ge i N with g | g
    · rw [cs_at g, cs_at g, cE_same (h i hi)]
    · have l1 : ∀ τ : Sg, (cs N adr cI cC cG τ)[i]? = none := fun τ => List.getElem?_eq_none (by unfold cs; rw [List.length_map, List.length_range]; exact g)
      rw [l1, l1]
theorem cs_D {N : Nat} {adr : Nat → Nat} {cI cC cG : ClassId} {σ : Sg} {A : Nat → Prop} (hi : ∀ i j, i < N → j < N → adr i = adr j → i = j) (hA : ∀ i, i < N → A (adr i)) : va_D A (cs N adr cI cC cG σ) := by
  refine ⟨fun i j p q h1 h2 h3 => ?_, fun k q h => ?_⟩
  · obtain ⟨a1, rfl⟩ := cs_of h1
    obtain ⟨a2, rfl⟩ := cs_of h2
    exact hi i j a1 a2 h3
  · obtain ⟨a1, rfl⟩ := cs_of h
    exact hA k a1
-- references that lead to cells that are there, or to the script
def lowA (N : Nat) : AV → Prop
  | .inr (.inl p) => p < N ∨ p = 99
  | _ => True
def low (N : Nat) (st : List AV) : Prop := ∀ v ∈ st, lowA N v
theorem low_t {N : Nat} {v : AV} {st : List AV} (h : low N (v :: st)) : low N st := fun w hw => h w (List.mem_cons_of_mem _ hw)
theorem low_h {N : Nat} {v : AV} {st : List AV} (h : low N (v :: st)) : lowA N v := h v List.mem_cons_self
theorem low_c {N : Nat} {v : AV} {st : List AV} (h1 : lowA N v) (h : low N st) : low N (v :: st) := List.forall_mem_cons.mpr ⟨h1, h⟩
theorem low_i {N : Nat} {x : Int} {st : List AV} (h : low N st) : low N (vI x :: st) := low_c trivial h
theorem low_l {N : Nat} {x : Int} {st : List AV} (h : low N st) : low N (vL x :: st) := low_c trivial h
theorem low_d {N n : Nat} {st : List AV} (h : low N st) : low N (st.drop n) := fun v hv => h v (List.mem_of_mem_drop hv)
theorem low_r {N n : Nat} {st : List AV} (h : low N st) : low N (st.take n).reverse := fun v hv => h v (List.mem_of_mem_take (List.mem_reverse.mp hv))
theorem low_p {N p c : Nat} {st : List AV} (h : low N (vR p :: st)) (hk : kd p = c) (hc : c < 99) : p < N := by
  rcases low_h h with q | q
  · exact q
  · exfalso
    rw [q] at hk
    have : kd 99 = 99 := by decide
    omega
theorem low_s {N k : Nat} {v : AV} {ls : List AV} (h : low N ls) (hv : lowA N v) : low N (ls.set k v) := fun w hw => by
  rcases List.mem_or_eq_of_mem_set hw with q | q
  · exact h w q
  · rw [q]; exact hv
-- numbers
theorem w_lt (x y : Int) : Int32.ofInt x < Int32.ofInt y ↔ wr x < wr y := Int32.lt_iff_toInt_lt
theorem w_le (x y : Int) : Int32.ofInt x ≤ Int32.ofInt y ↔ wr x ≤ wr y := Int32.le_iff_toInt_le
theorem w_eq (x y : Int) : Int32.ofInt x = Int32.ofInt y ↔ wr x = wr y := Int32.toInt_inj.symm
theorem w_0 : (0 : Int32) = Int32.ofInt 0 := by decide
theorem w_i0 : wr 0 = 0 := by decide
theorem w_lt0 (x : Int) : Int32.ofInt x < 0 ↔ wr x < 0 := by rw [w_0, w_lt, w_i0]
theorem w_0lt (x : Int) : 0 < Int32.ofInt x ↔ 0 < wr x := by rw [w_0, w_lt, w_i0]
theorem w_eq0 (x : Int) : Int32.ofInt x = 0 ↔ wr x = 0 := by rw [w_0, w_eq, w_i0]
theorem w_0le (x : Int) : 0 ≤ Int32.ofInt x ↔ ¬ wr x < 0 := by rw [w_0, w_le, w_i0]; omega
theorem w_le0 (x : Int) : Int32.ofInt x ≤ 0 ↔ ¬ 0 < wr x := by rw [w_0, w_le, w_i0]; omega
theorem w_rt (x : Int32) : Int32.ofInt x.toInt = x := Int32.ofInt_toInt x
theorem w_rtL (x : Int64) : Int64.ofInt x.toInt = x := Int64.ofInt_toInt x
theorem w_in {i : Int} {n : Nat} (h : 0 ≤ wr i ∧ wr i < n) : vp_in (Int32.ofInt i) n := vp_in_iff.mpr h
theorem w_cl {i : Int} (h : 0 ≤ wr i) : (Int32.ofInt i).toNatClampNeg = (wr i).toNat := rfl
end
section
/-! WHAT A STEP OWES (SS), and each kind of step -/
/-- the frame's own facts -/
def Fx (N : Nat) (mi : Nat) (p : Program) (R : Room) (s : State) (m : MethodId) (args : Array Value) (c : Code) (cells slots : Nat) (adr : Nat → Nat) (D : va_G) (cI cC cG : ClassId) (A0 : Nat → Prop) : Prop :=
  p.tables.exec = Jvm.exec ∧ c.code = mB mi ∧ c.maxLocals = nlm mi ∧ s.vm.findClass (mY mi).cls = some m.cls ∧ (∀ w ∈ gwl, w.before args s = true) ∧ va_K D vwCl (tys3 cI cC cG) s ∧ mFr mi ≤ R.frames ∧ mLo mi ≤ R.locals ∧ cells ≤ R.cells ∧ slots ≤ R.slots ∧ va_Nw nestW s ∧ (∀ i j, i < N → j < N → adr i = adr j → i = j) ∧ (∀ i, i < N → A0 (adr i)) ∧ (∀ i k, i < N → lk i k < N) ∧ 40 ≤ N
/-- the abstract state and the real one -/
def Rl (N : Nat) (mi : Nat) (adr : Nat → Nat) (D : va_G) (cI cC cG : ClassId) (A0 : Nat → Prop) (H0 : Heap) (σ0 σ : Sg) (ls : List AV) (lsA : Array Slot) (H : Heap) (locs : List Loc) : Prop :=
  lv_has lsA (nlm mi) (lmap adr 0 ls) ∧ (∀ j x, ls[j]? = some (vL x) → j ∈ mLg mi) ∧ va_P D vwCl (cs N adr cI cC cG σ) H ∧ va_S A0 H0 H locs ∧ (∀ q j, nP ≤ q → σ q j = σ0 q j) ∧ low N ls
/-- the script, which the law alone reads -/
def Scr (adr : Nat → Nat) (s : State) (A0 : Nat → Prop) (H0 : Heap) (σ0 : Sg) : Prop := ∃ (L : Nat) (xs : Nat → Int32), va_X (adr 99) L xs s H0 ∧ adr 99 < H0.size ∧ ¬ A0 (adr 99) ∧ σ0 98 0 = (L : Int) ∧ ∀ j, j < L → Int32.ofInt (σ0 99 j) = xs j
def AP (N : Nat) (adr : Nat → Nat) : Nat → Prop := fun a => ∃ i, i < N ∧ a = adr i
/-- a call's contract -/
def Ok (N : Nat) (l : Launch) (adr : Nat → Nat) (D : va_G) (cI cC cG : ClassId) (m : Nat) (as : List AV) (σ : Sg) (q : AV × Sg) : Prop :=
  Met l (mY m) (mW m) (mRm m) (va_Pc (stk adr as) (fun U => va_P D vwCl (cs N adr cI cC cG σ) U.heap ∧ va_K D vwCl (tys3 cI cC cG) U ∧ va_Nw nestW U)) (fun _ t0 oc t => oc = .returned (if mRk m = 0 then none else some (cvD adr q.1)) ∧ va_P D vwCl (cs N adr cI cC cG q.2) t.heap ∧ va_F (AP N adr) t0 t) 0 0 (AP N adr) ∧ (∀ j i, nP ≤ j → q.2 j i = σ j i)
/-- an end of the method -/
def RetAt (mi pc : Nat) (v : AV) (adr : Nat → Nat) (st : List Value) : Prop :=
  (mRk mi = 0 ∧ mRet mi = none ∧ decode (mB mi) pc = .ok (.return_, 1) ∧ st = []) ∨
  (∃ (x : Int) (ty : FieldType), mRk mi = 1 ∧ v = vI x ∧ mRet mi = some ty ∧ narrow ty (.int (Int32.ofInt x)) = .int (Int32.ofInt x) ∧ decode (mB mi) pc = .ok (.ireturn, 1) ∧ st = [.int (Int32.ofInt x)]) ∨
  (∃ (q : Nat) (C : String), mRk mi = 2 ∧ v = vR q ∧ mRet mi = some (.object C) ∧ decode (mB mi) pc = .ok (.areturn, 1) ∧ st = [.ref (adr q)])
def SS (mi pc : Nat) (f : Step) : Prop := ∀ (N : Nat) (p : Program) (l : Launch) (e : Env) (R : Room) (s : State) (m : MethodId) (args : Array Value) (below : List Frame) (meth : Method) (c : Code) (Q : State → Prop) (cells slots : Nat) (adr : Nat → Nat) (D : va_G) (cI cC cG : ClassId) (A0 : Nat → Prop) (H0 : Heap) (σ0 : Sg) (C : Cl) (K : Kn) (r : AV × Sg),
  Fx N mi p R s m args c cells slots adr D cI cC cG A0 →
  (mi = lawN → Scr adr s A0 H0 σ0) →
  (∀ m' as σ' q, C m' as σ' = some q → mFr m' + 1 ≤ mFr mi → as.all gA = true → as.length ≤ nlm m' → low N as → Ok N l adr D cI cC cG m' as σ' q) →
  (∀ pc' ls' st' σ', K pc' ls' st' σ' = some r → low N st' → ∀ lsA' H' locs', Rl N mi adr D cI cC cG A0 H0 σ0 σ' ls' lsA' H' locs' → W p l e R s m args below meth c H' locs' cells slots Q (F0 m pc' lsA' (stk adr st'))) →
  (∀ pc' lsA' H' locs' st', va_P D vwCl (cs N adr cI cC cG r.2) H' → va_S A0 H0 H' locs' → (∀ q j, nP ≤ q → r.2 q j = σ0 q j) → RetAt mi pc' r.1 adr st' → W p l e R s m args below meth c H' locs' cells slots Q (F0 m pc' lsA' st')) →
  ∀ ls st σ lsA H locs, f C K pc ls st σ = some r → low N st → Rl N mi adr D cI cC cG A0 H0 σ0 σ ls lsA H locs → W p l e R s m args below meth c H locs cells slots Q (F0 m pc lsA (stk adr st))
theorem w_i2c (x : Int) : ((Int32.ofInt x).toUInt32 % 65536).toInt32 = Int32.ofInt (x % 65536) := by
  apply Int32.toBitVec_inj.mp
  apply BitVec.eq_of_toNat_eq
  have h1 : (Int32.ofInt x).toBitVec = BitVec.ofInt 32 x := rfl
  have h2 : (Int32.ofInt (x % 65536)).toBitVec = BitVec.ofInt 32 (x % 65536) := rfl
  have h3 : ((Int32.ofInt x).toUInt32 % 65536).toInt32.toBitVec.toNat = (BitVec.ofInt 32 x).toNat % 65536 := by
    show ((Int32.ofInt x).toUInt32 % 65536).toNat = _
    rw [UInt32.toNat_mod]
    rfl
  rw [h3, h2, BitVec.toNat_ofInt, BitVec.toNat_ofInt]
  omega
theorem ss_no {mi pc : Nat} : SS mi pc s_no := by
  intro N p l e R s m args below meth c Q cells slots adr D cI cC cG A0 H0 σ0 C K r F hZ hC hK hR ls st σ lsA H locs h
  cases h
theorem Rl.set {N mi : Nat} {adr : Nat → Nat} {D : va_G} {cI cC cG : ClassId} {A0 : Nat → Prop} {H0 : Heap} {σ0 σ : Sg} {ls : List AV} {lsA lsB : Array Slot} {H : Heap} {locs : List Loc} {k : Nat} {v : AV} {w : Value} (h : Rl N mi adr D cI cC cG A0 H0 σ0 σ ls lsA H locs) (hk : k < nlm mi) (hg : k = 0 ∨ (k - 1) ∉ mLg mi) (hv : cv adr v = some w) (hn : ∀ x, v ≠ vL x) (hlv : lowA N v)
    (hB : lv_has lsB (nlm mi) ((k, w) :: (lmap adr 0 ls).filter (fun q => !(q.1 == k) && !(q.1 + 1 == k && q.2.category == 2)))) : Rl N mi adr D cI cC cG A0 H0 σ0 σ (ls.set k v) lsB H locs := by
  obtain ⟨h1, h2, h3, h4, h5, h6⟩ := h
  refine ⟨lv_mono hB ?_, ?_, h3, h4, h5, low_s h6 hlv⟩
  · rintro ⟨i, u⟩ hq
    obtain ⟨v', e1, e2⟩ := lmap_at.mp hq
    by_cases hi : i = k
    · subst hi
      have hl : i < ls.length := by
        have := (List.getElem?_eq_some_iff.mp e1).1
        rw [List.length_set] at this
        exact this
      rw [List.getElem?_set_self hl] at e1
      cases e1
      rw [hv] at e2
      cases e2
      exact List.mem_cons_self
    · rw [List.getElem?_set_ne (Ne.symm hi)] at e1
      refine List.mem_cons_of_mem _ (List.mem_filter.mpr ⟨lmap_at.mpr ⟨v', e1, e2⟩, ?_⟩)
      have a1 : (i == k) = false := by simpa using hi
      by_cases a2 : i + 1 = k
      · have a3 : u.category ≠ 2 := by
          intro hc
          rcases v' with x | x | x | x
          · cases e2; cases hc
          · cases e2; cases hc
          · have := h2 i x e1
            rcases hg with g | g
            · omega
            · exact g (by rw [show k - 1 = i by omega]; exact this)
          · cases e2
        have a4 : (u.category == 2) = false := by simpa using a3
        simp [a1, a4]
      · have a3 : (i + 1 == k) = false := by simpa using a2
        simp [a1, a3]
  · intro j x hj
    by_cases hi : j = k
    · subst hi
      exfalso
      rcases Nat.lt_or_ge j ls.length with g | g
      · rw [List.getElem?_set_self g] at hj
        exact hn x (Option.some.inj hj)
      · rw [List.getElem?_eq_none (by rw [List.length_set]; exact g)] at hj
        cases hj
    · rw [List.getElem?_set_ne (Ne.symm hi)] at hj
      exact h2 j x hj
theorem Rl.setL {N mi : Nat} {adr : Nat → Nat} {D : va_G} {cI cC cG : ClassId} {A0 : Nat → Prop} {H0 : Heap} {σ0 σ : Sg} {ls : List AV} {lsA lsB : Array Slot} {H : Heap} {locs : List Loc} {k : Nat} {x : Int} (h : Rl N mi adr D cI cC cG A0 H0 σ0 σ ls lsA H locs) (hk : k + 1 < nlm mi) (hg : k = 0 ∨ (k - 1) ∉ mLg mi) (hkl : k ∈ mLg mi)
    (hB : lv_has lsB (nlm mi) ((k, .long (Int64.ofInt x)) :: (lmap adr 0 ls).filter (fun q => !(q.1 == k) && (!(q.1 == k + 1) && !(q.1 + 1 == k && q.2.category == 2))))) : Rl N mi adr D cI cC cG A0 H0 σ0 σ ((ls.set k (vL x)).set (k + 1) vJ) lsB H locs := by
  obtain ⟨h1, h2, h3, h4, h5, h6⟩ := h
  refine ⟨lv_mono hB ?_, ?_, h3, h4, h5, low_s (low_s h6 trivial) trivial⟩
  · rintro ⟨i, u⟩ hq
    obtain ⟨v', e1, e2⟩ := lmap_at.mp hq
    by_cases hi1 : i = k + 1
    · subst hi1
      have hl : k + 1 < (ls.set k (vL x)).length := by
        have := (List.getElem?_eq_some_iff.mp e1).1
        rw [List.length_set] at this
        exact this
      rw [List.getElem?_set_self hl] at e1
      cases e1
      cases e2
    · rw [List.getElem?_set_ne (Ne.symm hi1)] at e1
      by_cases hi : i = k
      · subst hi
        have hl : i < ls.length := by
          have := (List.getElem?_eq_some_iff.mp e1).1
          rw [List.length_set] at this
          exact this
        rw [List.getElem?_set_self hl] at e1
        cases e1
        cases e2
        exact List.mem_cons_self
      · rw [List.getElem?_set_ne (Ne.symm hi)] at e1
        refine List.mem_cons_of_mem _ (List.mem_filter.mpr ⟨lmap_at.mpr ⟨v', e1, e2⟩, ?_⟩)
        have a1 : (i == k) = false := by simpa using hi
        have a0 : (i == k + 1) = false := by simpa using hi1
        by_cases a2 : i + 1 = k
        · have a3 : u.category ≠ 2 := by
            intro hc
            rcases v' with y | y | y | y
            · cases e2; cases hc
            · cases e2; cases hc
            · have := h2 i y e1
              rcases hg with g | g
              · omega
              · exact g (by rw [show k - 1 = i by omega]; exact this)
            · cases e2
          have a4 : (u.category == 2) = false := by simpa using a3
          simp [a1, a4, a0]
        · have a3 : (i + 1 == k) = false := by simpa using a2
          simp [a1, a3, a0]
  · intro j y hj
    by_cases hi1 : j = k + 1
    · subst hi1
      exfalso
      rcases Nat.lt_or_ge (k + 1) (ls.set k (vL x)).length with g | g
      · rw [List.getElem?_set_self g] at hj
        cases hj
      · rw [List.getElem?_eq_none (by rw [List.length_set]; exact g)] at hj
        cases hj
    · rw [List.getElem?_set_ne (Ne.symm hi1)] at hj
      by_cases hi : j = k
      · subst hi
        exact hkl
      · rw [List.getElem?_set_ne (Ne.symm hi)] at hj
        exact h2 j y hj
theorem Rl.loc {N mi : Nat} {adr : Nat → Nat} {D : va_G} {cI cC cG : ClassId} {A0 : Nat → Prop} {H0 : Heap} {σ0 σ : Sg} {ls : List AV} {lsA : Array Slot} {H : Heap} {locs : List Loc} {k : Nat} {v : AV} {w : Value} (h : Rl N mi adr D cI cC cG A0 H0 σ0 σ ls lsA H locs) (hk : ls[k]? = some v) (hv : cv adr v = some w) : lsA[k]? = some (.val w) := h.1.2.2 (k, w) (lmap_at.mpr ⟨v, hk, hv⟩)
theorem Rl.lowv {N mi : Nat} {adr : Nat → Nat} {D : va_G} {cI cC cG : ClassId} {A0 : Nat → Prop} {H0 : Heap} {σ0 σ : Sg} {ls : List AV} {lsA : Array Slot} {H : Heap} {locs : List Loc} {k : Nat} {v : AV} (h : Rl N mi adr D cI cC cG A0 H0 σ0 σ ls lsA H locs) (hk : ls[k]? = some v) : lowA N v := h.2.2.2.2.2 v (List.mem_of_getElem? hk)
/-- a cell of ints, chars or fields is written -/
theorem Rl.put {N mi : Nat} {adr : Nat → Nat} {D : va_G} {cI cC cG : ClassId} {A0 : Nat → Prop} {H0 : Heap} {σ0 σ σ' : Sg} {ls : List AV} {lsA : Array Slot} {H H1 : Heap} {locs locs1 : List Loc} {p : Nat} {en : va_E} (h : Rl N mi adr D cI cC cG A0 H0 σ0 σ ls lsA H locs) (hp : p < N) (hpn : p < nP) (hq : ∀ q, q ≠ p → σ' q = σ q) (he : en = cE adr cI cC cG σ' p) (hP : va_P D vwCl ((cs N adr cI cC cG σ).set p (adr p, en)) H1) (hS : va_S A0 H0 H1 locs1) : Rl N mi adr D cI cC cG A0 H0 σ0 σ' ls lsA H1 locs1 := by
  obtain ⟨h1, h2, h3, h4, h5, h6⟩ := h
  rw [cs_set hp hq he] at hP
  exact ⟨h1, h2, hP, hS, fun q j hj => by rw [hq q (by omega)]; exact h5 q j hj, h6⟩
theorem cE_upI {adr : Nat → Nat} {cI cC cG : ClassId} {σ : Sg} {p k : Nat} {x : Int} (h : kd p = 10) : (.inl (cI, ln p, .inl (upd (fun j => Int32.ofInt (σ p j)) k (Int32.ofInt x))) : va_E) = cE adr cI cC cG (up σ p k x) p := by
  rw [cE_i h]
  congr 4
  funext j
  by_cases e : j = k
  · simp [upd, up, e]
  · simp [upd, up, e]
theorem cE_upC {adr : Nat → Nat} {cI cC cG : ClassId} {σ : Sg} {p k : Nat} {x : Int} (h : kd p = 11) : (.inl (cC, ln p, .inl (upd (fun j => Int32.ofInt (σ p j)) k (Int32.ofInt x))) : va_E) = cE adr cI cC cG (up σ p k x) p := by
  rw [cE_c h]
  congr 4
  funext j
  by_cases e : j = k
  · simp [upd, up, e]
  · simp [upd, up, e]
theorem cE_upF {adr : Nat → Nat} {cI cC cG : ClassId} {σ : Sg} {p c k : Nat} {x : Int} (h : kd p = c) (hc : c < 10) (hk : k < nf c) (hr : isR c k = false) : (.inr (c, (fsO adr σ p c).set k (.int (Int32.ofInt x))) : va_E) = cE adr cI cC cG (up σ p k x) p := by
  rw [cE_o h hc]
  congr 2
  apply List.ext_getElem?
  intro i
  by_cases e : i = k
  · subst e
    rw [List.getElem?_set_self (by rw [fsO_len]; exact hk), fsO_at hk, hr]
    simp [up]
  · rw [List.getElem?_set_ne (Ne.symm e)]
    rcases Nat.lt_or_ge i (nf c) with g | g
    · rw [fsO_at g, fsO_at g]
      simp [up, e]
    · rw [List.getElem?_eq_none (by rw [fsO_len]; exact g), List.getElem?_eq_none (by rw [fsO_len]; exact g)]
theorem cE_cpy {adr : Nat → Nat} {cI cC cG : ClassId} {σ : Sg} {p q sp dp n : Nat} (h : kd q = 10) : (.inl (cI, ln q, .inl (va_cpy (fun j => Int32.ofInt (σ p j)) (fun j => Int32.ofInt (σ q j)) sp dp n)) : va_E) = cE adr cI cC cG (cpy σ p sp q dp n) q := by
  rw [cE_i h]
  congr 4
  funext j
  by_cases e : dp ≤ j ∧ j < dp + n
  · simp [va_cpy, cpy, e]
  · simp [va_cpy, cpy, e]
theorem ss_iload {mi pc k n : Nat} (hd : (∃ h : k < 4, decode (mB mi) pc = .ok (.iload_n ⟨k, h⟩, 1) ∧ n = 1) ∨ (decode (mB mi) pc = .ok (.iload k, 2) ∧ n = 2)) : SS mi pc (s_iload k n) := by
  intro N p l e R s m args below meth c Q cells slots adr D cI cC cG A0 H0 σ0 C K r F hZ hC hK hR ls st σ lsA H locs h hw hl
  obtain ⟨hx, hb, hml, hown, hts, hKK, hfr, hlo, hce, hsl, hnw, hinj, hA0, hcl0, hN40⟩ := id F
  unfold s_iload at h
  cases hk : ls[k]? with
  | none => rw [hk] at h; cases h
  | some v =>
    rw [hk] at h
    rcases v with x | x | x | x
    · have hv := hl.loc hk (rfl : cv adr (vI x) = some _)
      rcases hd with ⟨h4, hd, rfl⟩ | ⟨hd, rfl⟩
      · exact lv_iload_n hx hb hd rfl hv (hK _ _ _ _ h (low_i hw) _ _ _ hl)
      · exact lv_iload hx hb hd hv (hK _ _ _ _ h (low_i hw) _ _ _ hl)
    · cases h
    · cases h
    · cases h
theorem ss_aload {mi pc k n : Nat} (hd : (∃ h : k < 4, decode (mB mi) pc = .ok (.aload_n ⟨k, h⟩, 1) ∧ n = 1) ∨ (decode (mB mi) pc = .ok (.aload k, 2) ∧ n = 2)) : SS mi pc (s_aload k n) := by
  intro N p l e R s m args below meth c Q cells slots adr D cI cC cG A0 H0 σ0 C K r F hZ hC hK hR ls st σ lsA H locs h hw hl
  obtain ⟨hx, hb, hml, hown, hts, hKK, hfr, hlo, hce, hsl, hnw, hinj, hA0, hcl0, hN40⟩ := id F
  unfold s_aload at h
  cases hk : ls[k]? with
  | none => rw [hk] at h; cases h
  | some v =>
    rw [hk] at h
    rcases v with x | x | x | x
    · cases h
    · have hv := hl.loc hk (rfl : cv adr (vR x) = some _)
      rcases hd with ⟨h4, hd, rfl⟩ | ⟨hd, rfl⟩
      · exact lv_aload_n hx hb hd rfl hv (hK _ _ _ _ h (low_c (hl.lowv hk) hw) _ _ _ hl)
      · exact lv_aload hx hb hd hv (hK _ _ _ _ h (low_c (hl.lowv hk) hw) _ _ _ hl)
    · cases h
    · cases h
theorem ss_lload {mi pc k n : Nat} (hd : (∃ h : k < 4, decode (mB mi) pc = .ok (.lload_n ⟨k, h⟩, 1) ∧ n = 1) ∨ (decode (mB mi) pc = .ok (.lload k, 2) ∧ n = 2)) : SS mi pc (s_lload k n) := by
  intro N p l e R s m args below meth c Q cells slots adr D cI cC cG A0 H0 σ0 C K r F hZ hC hK hR ls st σ lsA H locs h hw hl
  obtain ⟨hx, hb, hml, hown, hts, hKK, hfr, hlo, hce, hsl, hnw, hinj, hA0, hcl0, hN40⟩ := id F
  unfold s_lload at h
  cases hk : ls[k]? with
  | none => rw [hk] at h; cases h
  | some v =>
    rw [hk] at h
    rcases v with x | x | x | x
    · cases h
    · cases h
    · have hv := hl.loc hk (rfl : cv adr (vL x) = some _)
      rcases hd with ⟨h4, hd, rfl⟩ | ⟨hd, rfl⟩
      · exact lv_lload_n hx hb hd rfl hv (hK _ _ _ _ h (low_l hw) _ _ _ hl)
      · exact lv_lload hx hb hd hv (hK _ _ _ _ h (low_l hw) _ _ _ hl)
    · cases h
theorem ss_istore {mi pc k n : Nat} (hd : (∃ h : k < 4, decode (mB mi) pc = .ok (.istore_n ⟨k, h⟩, 1) ∧ n = 1) ∨ (decode (mB mi) pc = .ok (.istore k, 2) ∧ n = 2)) (hk : k < nlm mi) (hg : k = 0 ∨ (k - 1) ∉ mLg mi) : SS mi pc (s_istore k n) := by
  intro N p l e R s m args below meth c Q cells slots adr D cI cC cG A0 H0 σ0 C K r F hZ hC hK hR ls st σ lsA H locs h hw hl
  obtain ⟨hx, hb, hml, hown, hts, hKK, hfr, hlo, hce, hsl, hnw, hinj, hA0, hcl0, hN40⟩ := id F
  rcases st with _ | ⟨x0 | x0 | x0 | x0, st⟩
  all_goals first | (cases h; done) | skip
  rcases hd with ⟨h4, hd, rfl⟩ | ⟨hd, rfl⟩
  · exact lv_istore_n hx hb hd rfl hl.1 hk rfl (fun lsB hB => hK _ _ _ _ h (low_t hw) _ _ _ (hl.set hk hg (v := vI x0) rfl (fun _ z => by cases z) (low_h hw) hB))
  · exact lv_istore hx hb hd hl.1 hk rfl (fun lsB hB => hK _ _ _ _ h (low_t hw) _ _ _ (hl.set hk hg (v := vI x0) rfl (fun _ z => by cases z) (low_h hw) hB))
theorem ss_astore {mi pc k n : Nat} (hd : (∃ h : k < 4, decode (mB mi) pc = .ok (.astore_n ⟨k, h⟩, 1) ∧ n = 1) ∨ (decode (mB mi) pc = .ok (.astore k, 2) ∧ n = 2)) (hk : k < nlm mi) (hg : k = 0 ∨ (k - 1) ∉ mLg mi) : SS mi pc (s_astore k n) := by
  intro N p l e R s m args below meth c Q cells slots adr D cI cC cG A0 H0 σ0 C K r F hZ hC hK hR ls st σ lsA H locs h hw hl
  obtain ⟨hx, hb, hml, hown, hts, hKK, hfr, hlo, hce, hsl, hnw, hinj, hA0, hcl0, hN40⟩ := id F
  rcases st with _ | ⟨x0 | x0 | x0 | x0, st⟩
  all_goals first | (cases h; done) | skip
  rcases hd with ⟨h4, hd, rfl⟩ | ⟨hd, rfl⟩
  · exact lv_astore_n hx hb hd rfl hl.1 hk rfl (fun lsB hB => hK _ _ _ _ h (low_t hw) _ _ _ (hl.set hk hg (v := vR x0) rfl (fun _ z => by cases z) (low_h hw) hB))
  · exact lv_astore hx hb hd hl.1 hk rfl (fun lsB hB => hK _ _ _ _ h (low_t hw) _ _ _ (hl.set hk hg (v := vR x0) rfl (fun _ z => by cases z) (low_h hw) hB))
theorem ss_lstore {mi pc k n : Nat} (hd : (∃ h : k < 4, decode (mB mi) pc = .ok (.lstore_n ⟨k, h⟩, 1) ∧ n = 1) ∨ (decode (mB mi) pc = .ok (.lstore k, 2) ∧ n = 2)) (hk : k + 1 < nlm mi) (hg : k = 0 ∨ (k - 1) ∉ mLg mi) (hkl : k ∈ mLg mi) : SS mi pc (s_lstore k n) := by
  intro N p l e R s m args below meth c Q cells slots adr D cI cC cG A0 H0 σ0 C K r F hZ hC hK hR ls st σ lsA H locs h hw hl
  obtain ⟨hx, hb, hml, hown, hts, hKK, hfr, hlo, hce, hsl, hnw, hinj, hA0, hcl0, hN40⟩ := id F
  rcases st with _ | ⟨x0 | x0 | x0 | x0, st⟩
  all_goals first | (cases h; done) | skip
  rcases hd with ⟨h4, hd, rfl⟩ | ⟨hd, rfl⟩
  · exact lv_lstore_n hx hb hd rfl hl.1 hk rfl (fun lsB hB => hK _ _ _ _ h (low_t hw) _ _ _ (hl.setL hk hg hkl hB))
  · exact lv_lstore hx hb hd hl.1 hk rfl (fun lsB hB => hK _ _ _ _ h (low_t hw) _ _ _ (hl.setL hk hg hkl hB))
theorem ss_iinc {mi pc k : Nat} {a : Int} (hd : decode (mB mi) pc = .ok (.iinc k a, 3)) (hk : k < nlm mi) (hg : k = 0 ∨ (k - 1) ∉ mLg mi) : SS mi pc (s_iinc k a) := by
  intro N p l e R s m args below meth c Q cells slots adr D cI cC cG A0 H0 σ0 C K r F hZ hC hK hR ls st σ lsA H locs h hw hl
  obtain ⟨hx, hb, hml, hown, hts, hKK, hfr, hlo, hce, hsl, hnw, hinj, hA0, hcl0, hN40⟩ := id F
  unfold s_iinc at h
  cases hq : ls[k]? with
  | none => rw [hq] at h; cases h
  | some v =>
    rw [hq] at h
    rcases v with x | x | x | x
    · obtain ⟨i, hi⟩ := List.getElem?_of_mem (lmap_at.mpr ⟨_, hq, (rfl : cv adr (vI x) = some _)⟩)
      exact lv_iinc (k := i) (v := Int32.ofInt (x + a)) hx hb hd hl.1 hi (by rw [Int32.ofInt_add]) hk rfl (fun lsB hB => hK _ _ _ _ h hw _ _ _ (hl.set hk hg (v := vI (x + a)) rfl (fun _ z => by cases z) trivial hB))
    · cases h
    · cases h
    · cases h
theorem ss_push {mi pc n : Nat} {a : Int} (hd : (decode (mB mi) pc = .ok (.iconst a, 1) ∧ n = 1) ∨ (decode (mB mi) pc = .ok (.bipush a, 2) ∧ n = 2 ∧ (Int8.ofInt a).toInt32 = Int32.ofInt a) ∨ (decode (mB mi) pc = .ok (.sipush a, 3) ∧ n = 3 ∧ (Int16.ofInt a).toInt32 = Int32.ofInt a) ∨ (∃ idx, decode (mB mi) pc = .ok (.ldc_w idx, 3) ∧ n = 3 ∧ Cond.constant (mY mi).cls idx (Int32.ofInt a) ∈ gwl)) : SS mi pc (s_push a n) := by
  intro N p l e R s m args below meth c Q cells slots adr D cI cC cG A0 H0 σ0 C K r F hZ hC hK hR ls st σ lsA H locs h hw hl
  obtain ⟨hx, hb, hml, hown, hts, hKK, hfr, hlo, hce, hsl, hnw, hinj, hA0, hcl0, hN40⟩ := id F
  rcases hd with ⟨hd, rfl⟩ | ⟨hd, rfl, hv⟩ | ⟨hd, rfl, hv⟩ | ⟨idx, hd, rfl, hv⟩
  · exact lv_iconst hx hb hd rfl (hK _ _ _ _ h (low_i hw) _ _ _ hl)
  · exact lv_bipush hx hb hd hv (hK _ _ _ _ h (low_i hw) _ _ _ hl)
  · exact lv_sipush hx hb hd hv (hK _ _ _ _ h (low_i hw) _ _ _ hl)
  · exact lv_ldcw hx hb hown (hts _ hv) hd (hK _ _ _ _ h (low_i hw) _ _ _ hl)
theorem ss_lpush {mi pc n : Nat} {a : Int} (hd : (∃ k : Fin 2, decode (mB mi) pc = .ok (.lconst k, 1) ∧ n = 1 ∧ Int64.ofNat k.val = Int64.ofInt a) ∨ (∃ idx, decode (mB mi) pc = .ok (.ldc2_w idx, 3) ∧ n = 3 ∧ Cond.constantLong (mY mi).cls idx (Int64.ofInt a) ∈ gwl)) : SS mi pc (s_lpush a n) := by
  intro N p l e R s m args below meth c Q cells slots adr D cI cC cG A0 H0 σ0 C K r F hZ hC hK hR ls st σ lsA H locs h hw hl
  obtain ⟨hx, hb, hml, hown, hts, hKK, hfr, hlo, hce, hsl, hnw, hinj, hA0, hcl0, hN40⟩ := id F
  rcases hd with ⟨k, hd, rfl, hv⟩ | ⟨idx, hd, rfl, hv⟩
  · exact lv_lconst hx hb hd hv (hK _ _ _ _ h (low_l hw) _ _ _ hl)
  · exact lv_ldc2 hx hb hown (hts _ hv) hd (hK _ _ _ _ h (low_l hw) _ _ _ hl)
theorem ss_iadd {mi pc : Nat} (hd : decode (mB mi) pc = .ok (.iadd, 1)) : SS mi pc (s_bin iAd) := by
  intro N p l e R s m args below meth c Q cells slots adr D cI cC cG A0 H0 σ0 C K r F hZ hC hK hR ls st σ lsA H locs h hw hl
  obtain ⟨hx, hb, hml, hown, hts, hKK, hfr, hlo, hce, hsl, hnw, hinj, hA0, hcl0, hN40⟩ := id F
  rcases st with _ | ⟨x0 | x0 | x0 | x0, _ | ⟨x1 | x1 | x1 | x1, st⟩⟩
  all_goals first | (cases h; done) | skip
  have k0 := hK _ _ _ _ h (low_i (low_t (low_t hw))) _ _ _ hl
  have e0 : Int32.ofInt (iAd x1 x0) = _ := Int32.ofInt_add x1 x0
  refine lv_iadd hx hb hd ?_
  rw [← e0]
  exact k0
theorem ss_isub {mi pc : Nat} (hd : decode (mB mi) pc = .ok (.isub, 1)) : SS mi pc (s_bin iSu) := by
  intro N p l e R s m args below meth c Q cells slots adr D cI cC cG A0 H0 σ0 C K r F hZ hC hK hR ls st σ lsA H locs h hw hl
  obtain ⟨hx, hb, hml, hown, hts, hKK, hfr, hlo, hce, hsl, hnw, hinj, hA0, hcl0, hN40⟩ := id F
  rcases st with _ | ⟨x0 | x0 | x0 | x0, _ | ⟨x1 | x1 | x1 | x1, st⟩⟩
  all_goals first | (cases h; done) | skip
  have k0 := hK _ _ _ _ h (low_i (low_t (low_t hw))) _ _ _ hl
  have e0 : Int32.ofInt (iSu x1 x0) = _ := Int32.ofInt_sub x1 x0
  refine lv_isub hx hb hd ?_
  rw [← e0]
  exact k0
theorem ss_imul {mi pc : Nat} (hd : decode (mB mi) pc = .ok (.imul, 1)) : SS mi pc (s_bin iMu) := by
  intro N p l e R s m args below meth c Q cells slots adr D cI cC cG A0 H0 σ0 C K r F hZ hC hK hR ls st σ lsA H locs h hw hl
  obtain ⟨hx, hb, hml, hown, hts, hKK, hfr, hlo, hce, hsl, hnw, hinj, hA0, hcl0, hN40⟩ := id F
  rcases st with _ | ⟨x0 | x0 | x0 | x0, _ | ⟨x1 | x1 | x1 | x1, st⟩⟩
  all_goals first | (cases h; done) | skip
  have k0 := hK _ _ _ _ h (low_i (low_t (low_t hw))) _ _ _ hl
  have e0 : Int32.ofInt (iMu x1 x0) = _ := Int32.ofInt_mul x1 x0
  refine lv_imul hx hb hd ?_
  rw [← e0]
  exact k0
theorem ss_iand {mi pc : Nat} (hd : decode (mB mi) pc = .ok (.iand, 1)) : SS mi pc (s_bin ban) := by
  intro N p l e R s m args below meth c Q cells slots adr D cI cC cG A0 H0 σ0 C K r F hZ hC hK hR ls st σ lsA H locs h hw hl
  obtain ⟨hx, hb, hml, hown, hts, hKK, hfr, hlo, hce, hsl, hnw, hinj, hA0, hcl0, hN40⟩ := id F
  rcases st with _ | ⟨x0 | x0 | x0 | x0, _ | ⟨x1 | x1 | x1 | x1, st⟩⟩
  all_goals first | (cases h; done) | skip
  have k0 := hK _ _ _ _ h (low_i (low_t (low_t hw))) _ _ _ hl
  have e0 : Int32.ofInt (ban x1 x0) = _ := w_rt _
  refine lv_iand hx hb hd ?_
  rw [← e0]
  exact k0
theorem ss_ior {mi pc : Nat} (hd : decode (mB mi) pc = .ok (.ior, 1)) : SS mi pc (s_bin bor) := by
  intro N p l e R s m args below meth c Q cells slots adr D cI cC cG A0 H0 σ0 C K r F hZ hC hK hR ls st σ lsA H locs h hw hl
  obtain ⟨hx, hb, hml, hown, hts, hKK, hfr, hlo, hce, hsl, hnw, hinj, hA0, hcl0, hN40⟩ := id F
  rcases st with _ | ⟨x0 | x0 | x0 | x0, _ | ⟨x1 | x1 | x1 | x1, st⟩⟩
  all_goals first | (cases h; done) | skip
  have k0 := hK _ _ _ _ h (low_i (low_t (low_t hw))) _ _ _ hl
  have e0 : Int32.ofInt (bor x1 x0) = _ := w_rt _
  refine lv_ior hx hb hd ?_
  rw [← e0]
  exact k0
theorem ss_ixor {mi pc : Nat} (hd : decode (mB mi) pc = .ok (.ixor, 1)) : SS mi pc (s_bin bxo) := by
  intro N p l e R s m args below meth c Q cells slots adr D cI cC cG A0 H0 σ0 C K r F hZ hC hK hR ls st σ lsA H locs h hw hl
  obtain ⟨hx, hb, hml, hown, hts, hKK, hfr, hlo, hce, hsl, hnw, hinj, hA0, hcl0, hN40⟩ := id F
  rcases st with _ | ⟨x0 | x0 | x0 | x0, _ | ⟨x1 | x1 | x1 | x1, st⟩⟩
  all_goals first | (cases h; done) | skip
  have k0 := hK _ _ _ _ h (low_i (low_t (low_t hw))) _ _ _ hl
  have e0 : Int32.ofInt (bxo x1 x0) = _ := w_rt _
  refine lv_ixor hx hb hd ?_
  rw [← e0]
  exact k0
theorem ss_ishl {mi pc : Nat} (hd : decode (mB mi) pc = .ok (.ishl, 1)) : SS mi pc (s_bin bsl) := by
  intro N p l e R s m args below meth c Q cells slots adr D cI cC cG A0 H0 σ0 C K r F hZ hC hK hR ls st σ lsA H locs h hw hl
  obtain ⟨hx, hb, hml, hown, hts, hKK, hfr, hlo, hce, hsl, hnw, hinj, hA0, hcl0, hN40⟩ := id F
  rcases st with _ | ⟨x0 | x0 | x0 | x0, _ | ⟨x1 | x1 | x1 | x1, st⟩⟩
  all_goals first | (cases h; done) | skip
  have k0 := hK _ _ _ _ h (low_i (low_t (low_t hw))) _ _ _ hl
  have e0 : Int32.ofInt (bsl x1 x0) = _ := w_rt _
  refine lv_ishl hx hb hd ?_
  rw [← e0]
  exact k0
theorem ss_ishr {mi pc : Nat} (hd : decode (mB mi) pc = .ok (.ishr, 1)) : SS mi pc (s_bin bsr) := by
  intro N p l e R s m args below meth c Q cells slots adr D cI cC cG A0 H0 σ0 C K r F hZ hC hK hR ls st σ lsA H locs h hw hl
  obtain ⟨hx, hb, hml, hown, hts, hKK, hfr, hlo, hce, hsl, hnw, hinj, hA0, hcl0, hN40⟩ := id F
  rcases st with _ | ⟨x0 | x0 | x0 | x0, _ | ⟨x1 | x1 | x1 | x1, st⟩⟩
  all_goals first | (cases h; done) | skip
  have k0 := hK _ _ _ _ h (low_i (low_t (low_t hw))) _ _ _ hl
  have e0 : Int32.ofInt (bsr x1 x0) = _ := w_rt _
  refine lv_ishr hx hb hd ?_
  rw [← e0]
  exact k0
theorem ss_iushr {mi pc : Nat} (hd : decode (mB mi) pc = .ok (.iushr, 1)) : SS mi pc (s_bin bus) := by
  intro N p l e R s m args below meth c Q cells slots adr D cI cC cG A0 H0 σ0 C K r F hZ hC hK hR ls st σ lsA H locs h hw hl
  obtain ⟨hx, hb, hml, hown, hts, hKK, hfr, hlo, hce, hsl, hnw, hinj, hA0, hcl0, hN40⟩ := id F
  rcases st with _ | ⟨x0 | x0 | x0 | x0, _ | ⟨x1 | x1 | x1 | x1, st⟩⟩
  all_goals first | (cases h; done) | skip
  have k0 := hK _ _ _ _ h (low_i (low_t (low_t hw))) _ _ _ hl
  have e0 : Int32.ofInt (bus x1 x0) = _ := w_rt _
  exact lv_iushr hx hb hd e0.symm k0
theorem ss_idiv {mi pc : Nat} (hd : decode (mB mi) pc = .ok (.idiv, 1)) : SS mi pc (s_dvd idv) := by
  intro N p l e R s m args below meth c Q cells slots adr D cI cC cG A0 H0 σ0 C K r F hZ hC hK hR ls st σ lsA H locs h hw hl
  obtain ⟨hx, hb, hml, hown, hts, hKK, hfr, hlo, hce, hsl, hnw, hinj, hA0, hcl0, hN40⟩ := id F
  rcases st with _ | ⟨x0 | x0 | x0 | x0, _ | ⟨x1 | x1 | x1 | x1, st⟩⟩
  all_goals first | (cases h; done) | skip
  have h : (if wr x0 = 0 then none else K (pc + 1) ls (vI (idv x1 x0) :: st) σ) = some r := h
  by_cases c0 : wr x0 = 0
  · rw [if_pos c0] at h; cases h
  rw [if_neg c0] at h
  have k0 := hK _ _ _ _ h (low_i (low_t (low_t hw))) _ _ _ hl
  have e0 : Int32.ofInt (idv x1 x0) = _ := w_rt _
  refine lv_idiv hx hb hd (fun z => c0 ((w_eq0 _).mp z)) ?_
  rw [← e0]
  exact k0
theorem ss_irem {mi pc : Nat} (hd : decode (mB mi) pc = .ok (.irem, 1)) : SS mi pc (s_dvd irm) := by
  intro N p l e R s m args below meth c Q cells slots adr D cI cC cG A0 H0 σ0 C K r F hZ hC hK hR ls st σ lsA H locs h hw hl
  obtain ⟨hx, hb, hml, hown, hts, hKK, hfr, hlo, hce, hsl, hnw, hinj, hA0, hcl0, hN40⟩ := id F
  rcases st with _ | ⟨x0 | x0 | x0 | x0, _ | ⟨x1 | x1 | x1 | x1, st⟩⟩
  all_goals first | (cases h; done) | skip
  have h : (if wr x0 = 0 then none else K (pc + 1) ls (vI (irm x1 x0) :: st) σ) = some r := h
  by_cases c0 : wr x0 = 0
  · rw [if_pos c0] at h; cases h
  rw [if_neg c0] at h
  have k0 := hK _ _ _ _ h (low_i (low_t (low_t hw))) _ _ _ hl
  have e0 : Int32.ofInt (irm x1 x0) = _ := w_rt _
  refine lv_irem hx hb hd (fun z => c0 ((w_eq0 _).mp z)) ?_
  rw [← e0]
  exact k0
theorem ss_ladd {mi pc : Nat} (hd : decode (mB mi) pc = .ok (.ladd, 1)) : SS mi pc (s_lbin iAd) := by
  intro N p l e R s m args below meth c Q cells slots adr D cI cC cG A0 H0 σ0 C K r F hZ hC hK hR ls st σ lsA H locs h hw hl
  obtain ⟨hx, hb, hml, hown, hts, hKK, hfr, hlo, hce, hsl, hnw, hinj, hA0, hcl0, hN40⟩ := id F
  rcases st with _ | ⟨x0 | x0 | x0 | x0, _ | ⟨x1 | x1 | x1 | x1, st⟩⟩
  all_goals first | (cases h; done) | skip
  have k0 := hK _ _ _ _ h (low_l (low_t (low_t hw))) _ _ _ hl
  have e0 : Int64.ofInt (iAd x1 x0) = _ := Int64.ofInt_add x1 x0
  refine lv_ladd hx hb hd ?_
  rw [← e0]
  exact k0
theorem ss_lmul {mi pc : Nat} (hd : decode (mB mi) pc = .ok (.lmul, 1)) : SS mi pc (s_lbin iMu) := by
  intro N p l e R s m args below meth c Q cells slots adr D cI cC cG A0 H0 σ0 C K r F hZ hC hK hR ls st σ lsA H locs h hw hl
  obtain ⟨hx, hb, hml, hown, hts, hKK, hfr, hlo, hce, hsl, hnw, hinj, hA0, hcl0, hN40⟩ := id F
  rcases st with _ | ⟨x0 | x0 | x0 | x0, _ | ⟨x1 | x1 | x1 | x1, st⟩⟩
  all_goals first | (cases h; done) | skip
  have k0 := hK _ _ _ _ h (low_l (low_t (low_t hw))) _ _ _ hl
  have e0 : Int64.ofInt (iMu x1 x0) = _ := Int64.ofInt_mul x1 x0
  refine lv_lmul hx hb hd ?_
  rw [← e0]
  exact k0
theorem ss_ldiv {mi pc : Nat} (hd : decode (mB mi) pc = .ok (.ldiv, 1)) : SS mi pc (s_ldvd ldv) := by
  intro N p l e R s m args below meth c Q cells slots adr D cI cC cG A0 H0 σ0 C K r F hZ hC hK hR ls st σ lsA H locs h hw hl
  obtain ⟨hx, hb, hml, hown, hts, hKK, hfr, hlo, hce, hsl, hnw, hinj, hA0, hcl0, hN40⟩ := id F
  rcases st with _ | ⟨x0 | x0 | x0 | x0, _ | ⟨x1 | x1 | x1 | x1, st⟩⟩
  all_goals first | (cases h; done) | skip
  have h : (if wl x0 = 0 then none else K (pc + 1) ls (vL (ldv x1 x0) :: st) σ) = some r := h
  by_cases c0 : wl x0 = 0
  · rw [if_pos c0] at h; cases h
  rw [if_neg c0] at h
  have k0 := hK _ _ _ _ h (low_l (low_t (low_t hw))) _ _ _ hl
  have e0 : Int64.ofInt (ldv x1 x0) = _ := w_rtL _
  refine lv_ldiv hx hb hd (fun z => c0 (by unfold wl; rw [z]; rfl)) ?_
  rw [← e0]
  exact k0
theorem ss_lrem {mi pc : Nat} (hd : decode (mB mi) pc = .ok (.lrem, 1)) : SS mi pc (s_ldvd lrm) := by
  intro N p l e R s m args below meth c Q cells slots adr D cI cC cG A0 H0 σ0 C K r F hZ hC hK hR ls st σ lsA H locs h hw hl
  obtain ⟨hx, hb, hml, hown, hts, hKK, hfr, hlo, hce, hsl, hnw, hinj, hA0, hcl0, hN40⟩ := id F
  rcases st with _ | ⟨x0 | x0 | x0 | x0, _ | ⟨x1 | x1 | x1 | x1, st⟩⟩
  all_goals first | (cases h; done) | skip
  have h : (if wl x0 = 0 then none else K (pc + 1) ls (vL (lrm x1 x0) :: st) σ) = some r := h
  by_cases c0 : wl x0 = 0
  · rw [if_pos c0] at h; cases h
  rw [if_neg c0] at h
  have k0 := hK _ _ _ _ h (low_l (low_t (low_t hw))) _ _ _ hl
  have e0 : Int64.ofInt (lrm x1 x0) = _ := w_rtL _
  refine lv_lrem hx hb hd (fun z => c0 (by unfold wl; rw [z]; rfl)) ?_
  rw [← e0]
  exact k0
theorem ss_i2l {mi pc : Nat} (hd : decode (mB mi) pc = .ok (.i2l, 1)) : SS mi pc (s_i2l) := by
  intro N p l e R s m args below meth c Q cells slots adr D cI cC cG A0 H0 σ0 C K r F hZ hC hK hR ls st σ lsA H locs h hw hl
  obtain ⟨hx, hb, hml, hown, hts, hKK, hfr, hlo, hce, hsl, hnw, hinj, hA0, hcl0, hN40⟩ := id F
  rcases st with _ | ⟨x0 | x0 | x0 | x0, st⟩
  all_goals first | (cases h; done) | skip
  refine lv_i2l hx hb hd (v := Int64.ofInt (wr x0)) ?_ (hK _ _ _ _ h (low_l (low_t hw)) _ _ _ hl)
  unfold wr
  first | rfl | exact (Int64.ofInt_int32ToInt _).symm
theorem ss_l2i {mi pc : Nat} (hd : decode (mB mi) pc = .ok (.l2i, 1)) : SS mi pc (s_l2i) := by
  intro N p l e R s m args below meth c Q cells slots adr D cI cC cG A0 H0 σ0 C K r F hZ hC hK hR ls st σ lsA H locs h hw hl
  obtain ⟨hx, hb, hml, hown, hts, hKK, hfr, hlo, hce, hsl, hnw, hinj, hA0, hcl0, hN40⟩ := id F
  rcases st with _ | ⟨x0 | x0 | x0 | x0, st⟩
  all_goals first | (cases h; done) | skip
  refine lv_l2i hx hb hd (v := Int32.ofInt x0) ?_ (hK _ _ _ _ h (low_i (low_t hw)) _ _ _ hl)
  first | exact Int64.toInt32_ofInt x0 | simp
theorem ss_i2c {mi pc : Nat} (hd : decode (mB mi) pc = .ok (.i2c, 1)) : SS mi pc (s_i2c) := by
  intro N p l e R s m args below meth c Q cells slots adr D cI cC cG A0 H0 σ0 C K r F hZ hC hK hR ls st σ lsA H locs h hw hl
  obtain ⟨hx, hb, hml, hown, hts, hKK, hfr, hlo, hce, hsl, hnw, hinj, hA0, hcl0, hN40⟩ := id F
  rcases st with _ | ⟨x0 | x0 | x0 | x0, st⟩
  all_goals first | (cases h; done) | skip
  refine lv_i2c hx hb hd (v := Int32.ofInt (x0 % 65536)) ?_ (hK _ _ _ _ h (low_i (low_t hw)) _ _ _ hl)
  exact w_i2c x0
theorem ss_dup {mi pc : Nat} (hd : decode (mB mi) pc = .ok (.dup, 1)) : SS mi pc s_dup := by
  intro N p l e R s m args below meth c Q cells slots adr D cI cC cG A0 H0 σ0 C K r F hZ hC hK hR ls st σ lsA H locs h hw hl
  obtain ⟨hx, hb, hml, hown, hts, hKK, hfr, hlo, hce, hsl, hnw, hinj, hA0, hcl0, hN40⟩ := id F
  rcases st with _ | ⟨x0 | x0 | x0 | x0, st⟩
  all_goals first | (cases h; done) | skip
  · exact lv_dup hx hb hd rfl (hK _ _ _ _ h (low_c (low_h hw) hw) _ _ _ hl)
  · exact lv_dup hx hb hd rfl (hK _ _ _ _ h (low_c (low_h hw) hw) _ _ _ hl)
theorem ss_dup2 {mi pc : Nat} (hd : decode (mB mi) pc = .ok (.dup2, 1)) : SS mi pc (s_dup2) := by
  intro N p l e R s m args below meth c Q cells slots adr D cI cC cG A0 H0 σ0 C K r F hZ hC hK hR ls st σ lsA H locs h hw hl
  obtain ⟨hx, hb, hml, hown, hts, hKK, hfr, hlo, hce, hsl, hnw, hinj, hA0, hcl0, hN40⟩ := id F
  rcases st with _ | ⟨x0 | x0 | x0 | x0, _ | ⟨x1 | x1 | x1 | x1, st⟩⟩
  all_goals first | (cases h; done) | skip
  exact lv_dup2_11 hx hb hd rfl rfl (hK _ _ _ _ h (low_c (low_h hw) (low_c (low_h (low_t hw)) hw)) _ _ _ hl)
theorem ss_pop {mi pc : Nat} (hd : decode (mB mi) pc = .ok (.pop, 1)) : SS mi pc (s_pop) := by
  intro N p l e R s m args below meth c Q cells slots adr D cI cC cG A0 H0 σ0 C K r F hZ hC hK hR ls st σ lsA H locs h hw hl
  obtain ⟨hx, hb, hml, hown, hts, hKK, hfr, hlo, hce, hsl, hnw, hinj, hA0, hcl0, hN40⟩ := id F
  rcases st with _ | ⟨x0 | x0 | x0 | x0, st⟩
  all_goals first | (cases h; done) | skip
  exact lv_pop hx hb hd rfl (hK _ _ _ _ h (low_t hw) _ _ _ hl)
theorem ss_goto {mi pc t : Nat} {off : Int} (hd : decode (mB mi) pc = .ok (.goto off, 3)) (ht : (pc : Int) + off = (t : Int)) : SS mi pc (s_goto t) := by
  intro N p l e R s m args below meth c Q cells slots adr D cI cC cG A0 H0 σ0 C K r F hZ hC hK hR ls st σ lsA H locs h hw hl
  obtain ⟨hx, hb, hml, hown, hts, hKK, hfr, hlo, hce, hsl, hnw, hinj, hA0, hcl0, hN40⟩ := id F
  exact lv_goto hx hb hd ht (hK _ _ _ _ h hw _ _ _ hl)
theorem ss_ifeq {mi pc t : Nat} {off : Int} (hd : decode (mB mi) pc = .ok (.ifCond .eq off, 3)) (ht : (pc : Int) + off = (t : Int)) : SS mi pc (s_ifeq t) := by
  intro N p l e R s m args below meth c Q cells slots adr D cI cC cG A0 H0 σ0 C K r F hZ hC hK hR ls st σ lsA H locs h hw hl
  obtain ⟨hx, hb, hml, hown, hts, hKK, hfr, hlo, hce, hsl, hnw, hinj, hA0, hcl0, hN40⟩ := id F
  rcases st with _ | ⟨x0 | x0 | x0 | x0, st⟩
  all_goals first | (cases h; done) | skip
  have h : (if wr x0 = 0 then K t ls st σ else K (pc + 3) ls st σ) = some r := h
  exact lv_if_eq hx hb hd ht (fun z => by rw [if_pos ((w_eq0 x0).mp z)] at h; exact hK _ _ _ _ h (low_t hw) _ _ _ hl) (fun z => by rw [if_neg (fun y => z ((w_eq0 x0).mpr y))] at h; exact hK _ _ _ _ h (low_t hw) _ _ _ hl)
theorem ss_ifne {mi pc t : Nat} {off : Int} (hd : decode (mB mi) pc = .ok (.ifCond .ne off, 3)) (ht : (pc : Int) + off = (t : Int)) : SS mi pc (s_ifne t) := by
  intro N p l e R s m args below meth c Q cells slots adr D cI cC cG A0 H0 σ0 C K r F hZ hC hK hR ls st σ lsA H locs h hw hl
  obtain ⟨hx, hb, hml, hown, hts, hKK, hfr, hlo, hce, hsl, hnw, hinj, hA0, hcl0, hN40⟩ := id F
  rcases st with _ | ⟨x0 | x0 | x0 | x0, st⟩
  all_goals first | (cases h; done) | skip
  have h : (if wr x0 = 0 then K (pc + 3) ls st σ else K t ls st σ) = some r := h
  exact lv_if_ne hx hb hd ht (fun z => by rw [if_neg (fun y => z ((w_eq0 x0).mpr y))] at h; exact hK _ _ _ _ h (low_t hw) _ _ _ hl) (fun z => by rw [if_pos ((w_eq0 x0).mp z)] at h; exact hK _ _ _ _ h (low_t hw) _ _ _ hl)
theorem ss_iflt {mi pc t : Nat} {off : Int} (hd : decode (mB mi) pc = .ok (.ifCond .lt off, 3)) (ht : (pc : Int) + off = (t : Int)) : SS mi pc (s_iflt t) := by
  intro N p l e R s m args below meth c Q cells slots adr D cI cC cG A0 H0 σ0 C K r F hZ hC hK hR ls st σ lsA H locs h hw hl
  obtain ⟨hx, hb, hml, hown, hts, hKK, hfr, hlo, hce, hsl, hnw, hinj, hA0, hcl0, hN40⟩ := id F
  rcases st with _ | ⟨x0 | x0 | x0 | x0, st⟩
  all_goals first | (cases h; done) | skip
  have h : (if wr x0 < 0 then K t ls st σ else K (pc + 3) ls st σ) = some r := h
  exact lv_if_lt hx hb hd ht (fun z => by rw [if_pos ((w_lt0 x0).mp z)] at h; exact hK _ _ _ _ h (low_t hw) _ _ _ hl) (fun z => by rw [if_neg (fun y => z ((w_lt0 x0).mpr y))] at h; exact hK _ _ _ _ h (low_t hw) _ _ _ hl)
theorem ss_ifge {mi pc t : Nat} {off : Int} (hd : decode (mB mi) pc = .ok (.ifCond .ge off, 3)) (ht : (pc : Int) + off = (t : Int)) : SS mi pc (s_ifge t) := by
  intro N p l e R s m args below meth c Q cells slots adr D cI cC cG A0 H0 σ0 C K r F hZ hC hK hR ls st σ lsA H locs h hw hl
  obtain ⟨hx, hb, hml, hown, hts, hKK, hfr, hlo, hce, hsl, hnw, hinj, hA0, hcl0, hN40⟩ := id F
  rcases st with _ | ⟨x0 | x0 | x0 | x0, st⟩
  all_goals first | (cases h; done) | skip
  have h : (if wr x0 < 0 then K (pc + 3) ls st σ else K t ls st σ) = some r := h
  exact lv_if_ge hx hb hd ht (fun z => by rw [if_neg ((w_0le x0).mp z)] at h; exact hK _ _ _ _ h (low_t hw) _ _ _ hl) (fun z => by rw [if_pos (Decidable.byContradiction fun y => z ((w_0le x0).mpr y))] at h; exact hK _ _ _ _ h (low_t hw) _ _ _ hl)
theorem ss_ifgt {mi pc t : Nat} {off : Int} (hd : decode (mB mi) pc = .ok (.ifCond .gt off, 3)) (ht : (pc : Int) + off = (t : Int)) : SS mi pc (s_ifgt t) := by
  intro N p l e R s m args below meth c Q cells slots adr D cI cC cG A0 H0 σ0 C K r F hZ hC hK hR ls st σ lsA H locs h hw hl
  obtain ⟨hx, hb, hml, hown, hts, hKK, hfr, hlo, hce, hsl, hnw, hinj, hA0, hcl0, hN40⟩ := id F
  rcases st with _ | ⟨x0 | x0 | x0 | x0, st⟩
  all_goals first | (cases h; done) | skip
  have h : (if 0 < wr x0 then K t ls st σ else K (pc + 3) ls st σ) = some r := h
  exact lv_if_gt hx hb hd ht (fun z => by rw [if_pos ((w_0lt x0).mp z)] at h; exact hK _ _ _ _ h (low_t hw) _ _ _ hl) (fun z => by rw [if_neg (fun y => z ((w_0lt x0).mpr y))] at h; exact hK _ _ _ _ h (low_t hw) _ _ _ hl)
theorem ss_ifle {mi pc t : Nat} {off : Int} (hd : decode (mB mi) pc = .ok (.ifCond .le off, 3)) (ht : (pc : Int) + off = (t : Int)) : SS mi pc (s_ifle t) := by
  intro N p l e R s m args below meth c Q cells slots adr D cI cC cG A0 H0 σ0 C K r F hZ hC hK hR ls st σ lsA H locs h hw hl
  obtain ⟨hx, hb, hml, hown, hts, hKK, hfr, hlo, hce, hsl, hnw, hinj, hA0, hcl0, hN40⟩ := id F
  rcases st with _ | ⟨x0 | x0 | x0 | x0, st⟩
  all_goals first | (cases h; done) | skip
  have h : (if 0 < wr x0 then K (pc + 3) ls st σ else K t ls st σ) = some r := h
  exact lv_if_le hx hb hd ht (fun z => by rw [if_neg ((w_le0 x0).mp z)] at h; exact hK _ _ _ _ h (low_t hw) _ _ _ hl) (fun z => by rw [if_pos (Decidable.byContradiction fun y => z ((w_le0 x0).mpr y))] at h; exact hK _ _ _ _ h (low_t hw) _ _ _ hl)
theorem ss_iceq {mi pc t : Nat} {off : Int} (hd : decode (mB mi) pc = .ok (.if_icmp .eq off, 3)) (ht : (pc : Int) + off = (t : Int)) : SS mi pc (s_iceq t) := by
  intro N p l e R s m args below meth c Q cells slots adr D cI cC cG A0 H0 σ0 C K r F hZ hC hK hR ls st σ lsA H locs h hw hl
  obtain ⟨hx, hb, hml, hown, hts, hKK, hfr, hlo, hce, hsl, hnw, hinj, hA0, hcl0, hN40⟩ := id F
  rcases st with _ | ⟨x0 | x0 | x0 | x0, _ | ⟨x1 | x1 | x1 | x1, st⟩⟩
  all_goals first | (cases h; done) | skip
  have h : (if wr x1 = wr x0 then K t ls st σ else K (pc + 3) ls st σ) = some r := h
  exact lv_icmp_eq hx hb hd ht (fun z => by rw [if_pos ((w_eq x1 x0).mp z)] at h; exact hK _ _ _ _ h (low_t (low_t hw)) _ _ _ hl) (fun z => by rw [if_neg (fun y => z ((w_eq x1 x0).mpr y))] at h; exact hK _ _ _ _ h (low_t (low_t hw)) _ _ _ hl)
theorem ss_icne {mi pc t : Nat} {off : Int} (hd : decode (mB mi) pc = .ok (.if_icmp .ne off, 3)) (ht : (pc : Int) + off = (t : Int)) : SS mi pc (s_icne t) := by
  intro N p l e R s m args below meth c Q cells slots adr D cI cC cG A0 H0 σ0 C K r F hZ hC hK hR ls st σ lsA H locs h hw hl
  obtain ⟨hx, hb, hml, hown, hts, hKK, hfr, hlo, hce, hsl, hnw, hinj, hA0, hcl0, hN40⟩ := id F
  rcases st with _ | ⟨x0 | x0 | x0 | x0, _ | ⟨x1 | x1 | x1 | x1, st⟩⟩
  all_goals first | (cases h; done) | skip
  have h : (if wr x1 = wr x0 then K (pc + 3) ls st σ else K t ls st σ) = some r := h
  exact lv_icmp_ne hx hb hd ht (fun z => by rw [if_neg (fun y => z ((w_eq x1 x0).mpr y))] at h; exact hK _ _ _ _ h (low_t (low_t hw)) _ _ _ hl) (fun z => by rw [if_pos ((w_eq x1 x0).mp z)] at h; exact hK _ _ _ _ h (low_t (low_t hw)) _ _ _ hl)
theorem ss_iclt {mi pc t : Nat} {off : Int} (hd : decode (mB mi) pc = .ok (.if_icmp .lt off, 3)) (ht : (pc : Int) + off = (t : Int)) : SS mi pc (s_iclt t) := by
  intro N p l e R s m args below meth c Q cells slots adr D cI cC cG A0 H0 σ0 C K r F hZ hC hK hR ls st σ lsA H locs h hw hl
  obtain ⟨hx, hb, hml, hown, hts, hKK, hfr, hlo, hce, hsl, hnw, hinj, hA0, hcl0, hN40⟩ := id F
  rcases st with _ | ⟨x0 | x0 | x0 | x0, _ | ⟨x1 | x1 | x1 | x1, st⟩⟩
  all_goals first | (cases h; done) | skip
  have h : (if wr x1 < wr x0 then K t ls st σ else K (pc + 3) ls st σ) = some r := h
  exact lv_icmp_lt hx hb hd ht (fun z => by rw [if_pos ((w_lt x1 x0).mp z)] at h; exact hK _ _ _ _ h (low_t (low_t hw)) _ _ _ hl) (fun z => by rw [if_neg (fun y => z ((w_lt x1 x0).mpr y))] at h; exact hK _ _ _ _ h (low_t (low_t hw)) _ _ _ hl)
theorem ss_icge {mi pc t : Nat} {off : Int} (hd : decode (mB mi) pc = .ok (.if_icmp .ge off, 3)) (ht : (pc : Int) + off = (t : Int)) : SS mi pc (s_icge t) := by
  intro N p l e R s m args below meth c Q cells slots adr D cI cC cG A0 H0 σ0 C K r F hZ hC hK hR ls st σ lsA H locs h hw hl
  obtain ⟨hx, hb, hml, hown, hts, hKK, hfr, hlo, hce, hsl, hnw, hinj, hA0, hcl0, hN40⟩ := id F
  rcases st with _ | ⟨x0 | x0 | x0 | x0, _ | ⟨x1 | x1 | x1 | x1, st⟩⟩
  all_goals first | (cases h; done) | skip
  have h : (if wr x1 < wr x0 then K (pc + 3) ls st σ else K t ls st σ) = some r := h
  exact lv_icmp_ge hx hb hd ht (fun z => by rw [if_neg (((w_le x0 x1).trans Int.not_lt.symm).mp z)] at h; exact hK _ _ _ _ h (low_t (low_t hw)) _ _ _ hl) (fun z => by rw [if_pos (Decidable.byContradiction fun y => z (((w_le x0 x1).trans Int.not_lt.symm).mpr y))] at h; exact hK _ _ _ _ h (low_t (low_t hw)) _ _ _ hl)
theorem ss_icgt {mi pc t : Nat} {off : Int} (hd : decode (mB mi) pc = .ok (.if_icmp .gt off, 3)) (ht : (pc : Int) + off = (t : Int)) : SS mi pc (s_icgt t) := by
  intro N p l e R s m args below meth c Q cells slots adr D cI cC cG A0 H0 σ0 C K r F hZ hC hK hR ls st σ lsA H locs h hw hl
  obtain ⟨hx, hb, hml, hown, hts, hKK, hfr, hlo, hce, hsl, hnw, hinj, hA0, hcl0, hN40⟩ := id F
  rcases st with _ | ⟨x0 | x0 | x0 | x0, _ | ⟨x1 | x1 | x1 | x1, st⟩⟩
  all_goals first | (cases h; done) | skip
  have h : (if wr x0 < wr x1 then K t ls st σ else K (pc + 3) ls st σ) = some r := h
  exact lv_icmp_gt hx hb hd ht (fun z => by rw [if_pos ((w_lt x0 x1).mp z)] at h; exact hK _ _ _ _ h (low_t (low_t hw)) _ _ _ hl) (fun z => by rw [if_neg (fun y => z ((w_lt x0 x1).mpr y))] at h; exact hK _ _ _ _ h (low_t (low_t hw)) _ _ _ hl)
theorem ss_icle {mi pc t : Nat} {off : Int} (hd : decode (mB mi) pc = .ok (.if_icmp .le off, 3)) (ht : (pc : Int) + off = (t : Int)) : SS mi pc (s_icle t) := by
  intro N p l e R s m args below meth c Q cells slots adr D cI cC cG A0 H0 σ0 C K r F hZ hC hK hR ls st σ lsA H locs h hw hl
  obtain ⟨hx, hb, hml, hown, hts, hKK, hfr, hlo, hce, hsl, hnw, hinj, hA0, hcl0, hN40⟩ := id F
  rcases st with _ | ⟨x0 | x0 | x0 | x0, _ | ⟨x1 | x1 | x1 | x1, st⟩⟩
  all_goals first | (cases h; done) | skip
  have h : (if wr x0 < wr x1 then K (pc + 3) ls st σ else K t ls st σ) = some r := h
  exact lv_icmp_le hx hb hd ht (fun z => by rw [if_neg (((w_le x1 x0).trans Int.not_lt.symm).mp z)] at h; exact hK _ _ _ _ h (low_t (low_t hw)) _ _ _ hl) (fun z => by rw [if_pos (Decidable.byContradiction fun y => z (((w_le x1 x0).trans Int.not_lt.symm).mpr y))] at h; exact hK _ _ _ _ h (low_t (low_t hw)) _ _ _ hl)
end
section
/-! STEPS ON CELLS, CALLS, ENDS -/
theorem ss_getI {mi pc idx ci k N : Nat} {C : String} {T : u_T} (hd : decode (mB mi) pc = .ok (.getfield idx, 3)) (hcl : vwCl[ci]? = some (C, T, N)) (hwd : Cond.fieldLink (mY mi).cls idx (T k).1 (T k).2.1 (T k).2.2.1 ∈ gwl) (hin : ∀ w ∈ u_ws C T N, w ∈ gwl) (hk : k < N) (hkn : k < nf ci) (hr : isR ci k = false) (hci : ci < 10) : SS mi pc (s_getI ci k) := by
  intro N p l e R s m args below meth c Q cells slots adr D cI cC cG A0 H0 σ0 C K r F hZ hC hK hR ls st σ lsA H locs h hw hl
  obtain ⟨hx, hb, hml, hown, hts, hKK, hfr, hlo, hce, hsl, hnw, hinj, hA0, hcl0, hN40⟩ := id F
  rcases st with _ | ⟨x0 | x0 | x0 | x0, st⟩
  all_goals first | (cases h; done) | skip
  have h : (if kd x0 = ci then K (pc + 3) ls (vI (σ x0 k) :: st) σ else none) = some r := h
  by_cases c0 : kd x0 = ci
  · rw [if_pos c0] at h
    have hp := low_p hw c0 (by omega)
    have he := (cs_at (N := N) (adr := adr) (cI := cI) (cC := cC) (cG := cG) (σ := σ) hp).trans (by rw [cE_o c0 hci])
    exact va_get hx hb hts hin hown hKK hl.2.2.1 x0 he hcl k hk (hts _ hwd) (fun _ z => z) ((fsO_at hkn).trans (by rw [hr]; rfl)) hd (hK _ _ _ _ h (low_i (low_t hw)) _ _ _ hl)
  · rw [if_neg c0] at h; cases h
theorem ss_getR {mi pc idx ci k N : Nat} {C : String} {T : u_T} (hd : decode (mB mi) pc = .ok (.getfield idx, 3)) (hcl : vwCl[ci]? = some (C, T, N)) (hwd : Cond.fieldLink (mY mi).cls idx (T k).1 (T k).2.1 (T k).2.2.1 ∈ gwl) (hin : ∀ w ∈ u_ws C T N, w ∈ gwl) (hk : k < N) (hkn : k < nf ci) (hr : isR ci k = true) (hci : ci < 10) : SS mi pc (s_getR ci k) := by
  intro N p l e R s m args below meth c Q cells slots adr D cI cC cG A0 H0 σ0 C K r F hZ hC hK hR ls st σ lsA H locs h hw hl
  obtain ⟨hx, hb, hml, hown, hts, hKK, hfr, hlo, hce, hsl, hnw, hinj, hA0, hcl0, hN40⟩ := id F
  rcases st with _ | ⟨x0 | x0 | x0 | x0, st⟩
  all_goals first | (cases h; done) | skip
  have h : (if kd x0 = ci then K (pc + 3) ls (vR (lk x0 k) :: st) σ else none) = some r := h
  by_cases c0 : kd x0 = ci
  · rw [if_pos c0] at h
    have hp := low_p hw c0 (by omega)
    have he := (cs_at (N := N) (adr := adr) (cI := cI) (cC := cC) (cG := cG) (σ := σ) hp).trans (by rw [cE_o c0 hci])
    exact va_get hx hb hts hin hown hKK hl.2.2.1 x0 he hcl k hk (hts _ hwd) (fun _ z => z) ((fsO_at hkn).trans (by rw [hr]; rfl)) hd (hK _ _ _ _ h (low_c (Or.inl (hcl0 _ _ hp)) (low_t hw)) _ _ _ hl)
  · rw [if_neg c0] at h; cases h
theorem ss_putI {mi pc idx ci k N : Nat} {C : String} {T : u_T} {ty0 : Nat → FieldType} (hd : decode (mB mi) pc = .ok (.putfield idx, 3)) (hcl : vwCl[ci]? = some (C, T, N)) (hwd : Cond.fieldLink (mY mi).cls idx (T k).1 (T k).2.1 (T k).2.2.1 ∈ gwl) (hin : ∀ w ∈ u_ws C T N, w ∈ gwl) (hty : ∀ k, k < N → parseFieldDescriptor (T k).2.2.1 = some (ty0 k)) (hnm : ∀ a, a < N → ∀ b, b < N → a ≠ b → (T a).2.1 ≠ (T b).2.1) (hfin : (T k).2.2.2 = false) (hpd : parseFieldDescriptor (T k).2.2.1 = some .int) (hk : k < N) (hkn : k < nf ci) (hr : isR ci k = false) (hci : ci < 10) : SS mi pc (s_putI ci k) := by
  intro N p l e R s m args below meth c Q cells slots adr D cI cC cG A0 H0 σ0 C K r F hZ hC hK hR ls st σ lsA H locs h hw hl
  obtain ⟨hx, hb, hml, hown, hts, hKK, hfr, hlo, hce, hsl, hnw, hinj, hA0, hcl0, hN40⟩ := id F
  rcases st with _ | ⟨x0 | x0 | x0 | x0, _ | ⟨x1 | x1 | x1 | x1, st⟩⟩
  all_goals first | (cases h; done) | skip
  have h : (if kd x1 = ci then K (pc + 3) ls st (up σ x1 k x0) else none) = some r := h
  by_cases c0 : kd x1 = ci
  · rw [if_pos c0] at h
    have hp := low_p (low_t hw) c0 (by omega)
    have hpn := kd_lt c0 (by omega)
    have he := (cs_at (N := N) (adr := adr) (cI := cI) (cC := cC) (cG := cG) (σ := σ) hp).trans (by rw [cE_o c0 hci])
    exact va_put hx hb hts hin ty0 hty hnm hown hKK hl.2.2.1 (cs_D hinj hA0) hl.2.2.2.1 x1 he hcl k hk (hts _ hwd) (fun _ z => z) hfin hpd rfl rfl (by rw [fsO_len]; exact hkn) hd (fun H1 locs1 hP hD hS => hK _ _ _ _ h (low_t (low_t hw)) _ _ _ (hl.put hp hpn (fun q hq => up_ne hq) (cE_upF c0 hci hkn hr) hP hS))
  · rw [if_neg c0] at h; cases h
theorem ss_putZ {mi pc idx ci k N : Nat} {C : String} {T : u_T} {ty0 : Nat → FieldType} (hd : decode (mB mi) pc = .ok (.putfield idx, 3)) (hcl : vwCl[ci]? = some (C, T, N)) (hwd : Cond.fieldLink (mY mi).cls idx (T k).1 (T k).2.1 (T k).2.2.1 ∈ gwl) (hin : ∀ w ∈ u_ws C T N, w ∈ gwl) (hty : ∀ k, k < N → parseFieldDescriptor (T k).2.2.1 = some (ty0 k)) (hnm : ∀ a, a < N → ∀ b, b < N → a ≠ b → (T a).2.1 ≠ (T b).2.1) (hfin : (T k).2.2.2 = false) (hpd : parseFieldDescriptor (T k).2.2.1 = some .boolean) (hk : k < N) (hkn : k < nf ci) (hr : isR ci k = false) (hci : ci < 10) : SS mi pc (s_putZ ci k) := by
  intro N p l e R s m args below meth c Q cells slots adr D cI cC cG A0 H0 σ0 C K r F hZ hC hK hR ls st σ lsA H locs h hw hl
  obtain ⟨hx, hb, hml, hown, hts, hKK, hfr, hlo, hce, hsl, hnw, hinj, hA0, hcl0, hN40⟩ := id F
  rcases st with _ | ⟨x0 | x0 | x0 | x0, _ | ⟨x1 | x1 | x1 | x1, st⟩⟩
  all_goals first | (cases h; done) | skip
  have h : (if kd x1 = ci then (if x0 = 0 ∨ x0 = 1 then K (pc + 3) ls st (up σ x1 k x0) else none) else none) = some r := h
  by_cases c0 : kd x1 = ci
  · rw [if_pos c0] at h
    by_cases c1 : x0 = 0 ∨ x0 = 1
    case neg => rw [if_neg c1] at h; cases h
    rw [if_pos c1] at h
    have hn : narrow .boolean (.int (Int32.ofInt x0)) = .int (Int32.ofInt x0) := by rcases c1 with rfl | rfl <;> rfl
    have hfi : fits .boolean (.int (Int32.ofInt x0)) = true := by rcases c1 with rfl | rfl <;> rfl
    have hp := low_p (low_t hw) c0 (by omega)
    have hpn := kd_lt c0 (by omega)
    have he := (cs_at (N := N) (adr := adr) (cI := cI) (cC := cC) (cG := cG) (σ := σ) hp).trans (by rw [cE_o c0 hci])
    exact va_put hx hb hts hin ty0 hty hnm hown hKK hl.2.2.1 (cs_D hinj hA0) hl.2.2.2.1 x1 he hcl k hk (hts _ hwd) (fun _ z => z) hfin hpd hn hfi (by rw [fsO_len]; exact hkn) hd (fun H1 locs1 hP hD hS => hK _ _ _ _ h (low_t (low_t hw)) _ _ _ (hl.put hp hpn (fun q hq => up_ne hq) (cE_upF c0 hci hkn hr) hP hS))
  · rw [if_neg c0] at h; cases h
section VAM
variable {p : Program} {l : Launch} {e : Env} {R : Room} {s : State} {m : MethodId} {args : Array Value} {below : List Frame} {meth : Method} {c : Code} {H : Heap} {locs : List Loc} {cells slots : Nat} {Q : State → Prop}
variable {cc : ByteArray} {pc : Nat} {ls : Array Slot} {rest : List Value} {D : va_G} {cl : List vw_C} {A : Nat → Prop} {a : Nat} {tys : List (ClassId × FieldType)} {ws : va_W} {H0 : Heap}
theorem am_aldm (hexec : p.tables.exec = Jvm.exec) (hb : c.code = cc) (hK : va_K D cl tys s) (hP : va_P D cl ws H) (q0 t0 : Nat) {cA : ClassId} {ty : FieldType} {n : Nat} {f : Nat → Option Nat} (ha : ws[q0]? = some (a, .inl (cA, n, .inr (.inr (.inr (.inr f)))))) (ht : tys[t0]? = some (cA, .array ty)) {i : Int32} (hin : vp_in i n) (hdg : decode cc pc = .ok (.aaload, 1))
    (kk : W p l e R s m args below meth c H locs cells slots Q (F0 m (pc + 1) ls (va_rf (f i.toNatClampNeg) :: rest))) : W p l e R s m args below meth c H locs cells slots Q (F0 m pc ls (.int i :: .ref a :: rest)) := by
  have hlt : i.toNatClampNeg < n := Nat.not_le.mp fun q => hin (Or.inr q)
  exact W.aald (v := va_rf (f i.toNatClampNeg)) (ty := .array ty) hexec hb (hP q0 _ ha) ((hK.2 t0 _ ht).1 n (fun j => va_rf (f j))) rfl (fun q => by cases q) (by show ¬ (i < 0 ∨ (arrV _ _ _).slots.size ≤ _); rw [arrV_size]; exact hin) (by show (arrV _ _ _).slots[_]? = _; rw [arrV_read _ _ hlt]) rfl rfl hdg kk
end VAM
theorem ss_iald {mi pc : Nat} (hd : decode (mB mi) pc = .ok (.iaload, 1)) : SS mi pc s_iald := by
  intro N p l e R s m args below meth c Q cells slots adr D cI cC cG A0 H0 σ0 C K r F hZ hC hK hR ls st σ lsA H locs h hw hl
  obtain ⟨hx, hb, hml, hown, hts, hKK, hfr, hlo, hce, hsl, hnw, hinj, hA0, hcl0, hN40⟩ := id F
  rcases st with _ | ⟨x0 | x0 | x0 | x0, _ | ⟨x1 | x1 | x1 | x1, st⟩⟩
  all_goals first | (cases h; done) | skip
  have h : (if kd x1 = 10 then (if 0 ≤ wr x0 ∧ wr x0 < ln x1 then K (pc + 1) ls (vI (σ x1 (wr x0).toNat) :: st) σ else none) else none) = some r := h
  by_cases c0 : kd x1 = 10
  case neg => rw [if_neg c0] at h; cases h
  rw [if_pos c0] at h
  by_cases c1 : 0 ≤ wr x0 ∧ wr x0 < ln x1
  case neg => rw [if_neg c1] at h; cases h
  rw [if_pos c1] at h
  have hp := low_p (low_t hw) c0 (by omega)
  have he := (cs_at (N := N) (adr := adr) (cI := cI) (cC := cC) (cG := cG) (σ := σ) hp).trans (by rw [cE_i c0])
  have k0 := hK _ _ _ _ h (low_i (low_t (low_t hw))) _ _ _ hl
  exact va_iald hx hb hKK hl.2.2.1 x1 0 he rfl (w_in c1) hd k0
theorem ss_cald {mi pc : Nat} (hd : decode (mB mi) pc = .ok (.caload, 1)) : SS mi pc s_cald := by
  intro N p l e R s m args below meth c Q cells slots adr D cI cC cG A0 H0 σ0 C K r F hZ hC hK hR ls st σ lsA H locs h hw hl
  obtain ⟨hx, hb, hml, hown, hts, hKK, hfr, hlo, hce, hsl, hnw, hinj, hA0, hcl0, hN40⟩ := id F
  rcases st with _ | ⟨x0 | x0 | x0 | x0, _ | ⟨x1 | x1 | x1 | x1, st⟩⟩
  all_goals first | (cases h; done) | skip
  have h : (if kd x1 = 11 then (if 0 ≤ wr x0 ∧ wr x0 < ln x1 then K (pc + 1) ls (vI (σ x1 (wr x0).toNat) :: st) σ else none) else none) = some r := h
  by_cases c0 : kd x1 = 11
  case neg => rw [if_neg c0] at h; cases h
  rw [if_pos c0] at h
  by_cases c1 : 0 ≤ wr x0 ∧ wr x0 < ln x1
  case neg => rw [if_neg c1] at h; cases h
  rw [if_pos c1] at h
  have hp := low_p (low_t hw) c0 (by omega)
  have he := (cs_at (N := N) (adr := adr) (cI := cI) (cC := cC) (cG := cG) (σ := σ) hp).trans (by rw [cE_c c0])
  have k0 := hK _ _ _ _ h (low_i (low_t (low_t hw))) _ _ _ hl
  exact va_cald hx hb hKK hl.2.2.1 x1 1 he rfl (w_in c1) hd k0
theorem ss_aald {mi pc : Nat} (hd : decode (mB mi) pc = .ok (.aaload, 1)) : SS mi pc s_aald := by
  intro N p l e R s m args below meth c Q cells slots adr D cI cC cG A0 H0 σ0 C K r F hZ hC hK hR ls st σ lsA H locs h hw hl
  obtain ⟨hx, hb, hml, hown, hts, hKK, hfr, hlo, hce, hsl, hnw, hinj, hA0, hcl0, hN40⟩ := id F
  rcases st with _ | ⟨x0 | x0 | x0 | x0, _ | ⟨x1 | x1 | x1 | x1, st⟩⟩
  all_goals first | (cases h; done) | skip
  have h : (if kd x1 = 12 then (if 0 ≤ wr x0 ∧ wr x0 < ln x1 then K (pc + 1) ls (vR (lk x1 (wr x0).toNat) :: st) σ else none) else none) = some r := h
  by_cases c0 : kd x1 = 12
  case neg => rw [if_neg c0] at h; cases h
  rw [if_pos c0] at h
  by_cases c1 : 0 ≤ wr x0 ∧ wr x0 < ln x1
  case neg => rw [if_neg c1] at h; cases h
  rw [if_pos c1] at h
  have hp := low_p (low_t hw) c0 (by omega)
  have he := (cs_at (N := N) (adr := adr) (cI := cI) (cC := cC) (cG := cG) (σ := σ) hp).trans (by rw [cE_g c0])
  have k0 := hK _ _ _ _ h (low_c (Or.inl (hcl0 _ _ hp)) (low_t (low_t hw))) _ _ _ hl
  exact am_aldm hx hb hKK hl.2.2.1 x1 2 he rfl (w_in c1) hd k0
theorem ss_iast {mi pc : Nat} (hd : decode (mB mi) pc = .ok (.iastore, 1)) : SS mi pc s_iast := by
  intro N p l e R s m args below meth c Q cells slots adr D cI cC cG A0 H0 σ0 C K r F hZ hC hK hR ls st σ lsA H locs h hw hl
  obtain ⟨hx, hb, hml, hown, hts, hKK, hfr, hlo, hce, hsl, hnw, hinj, hA0, hcl0, hN40⟩ := id F
  rcases st with _ | ⟨x0 | x0 | x0 | x0, _ | ⟨x1 | x1 | x1 | x1, _ | ⟨x2 | x2 | x2 | x2, st⟩⟩⟩
  all_goals first | (cases h; done) | skip
  have h : (if kd x2 = 10 then (if 0 ≤ wr x1 ∧ wr x1 < ln x2 then K (pc + 1) ls st (up σ x2 (wr x1).toNat x0) else none) else none) = some r := h
  by_cases c0 : kd x2 = 10
  case neg => rw [if_neg c0] at h; cases h
  rw [if_pos c0] at h
  by_cases c1 : 0 ≤ wr x1 ∧ wr x1 < ln x2
  case neg => rw [if_neg c1] at h; cases h
  rw [if_pos c1] at h
  have hp := low_p (low_t (low_t hw)) c0 (by omega)
  have hpn := kd_lt c0 (by omega)
  have he := (cs_at (N := N) (adr := adr) (cI := cI) (cC := cC) (cG := cG) (σ := σ) hp).trans (by rw [cE_i c0])
  exact va_iast hx hb hKK hl.2.2.1 (cs_D hinj hA0) hl.2.2.2.1 x2 0 he rfl (w_in c1) hd (fun H1 locs1 hP hD hS => hK _ _ _ _ h (low_t (low_t (low_t hw))) _ _ _ (hl.put hp hpn (fun q hq => up_ne hq) (cE_upI c0) hP hS))
theorem w_char {x : Int} (h : 0 ≤ x ∧ x < 65536) : vp_nar .char (Int32.ofInt x) = Int32.ofInt x := by
  have e : vp_nar .char (Int32.ofInt x) = ((Int32.ofInt x).toUInt32 % 65536).toInt32 := vp_nar_char _
  rw [e, w_i2c, Int.emod_eq_of_lt h.1 h.2]
theorem ss_cast {mi pc : Nat} (hd : decode (mB mi) pc = .ok (.castore, 1)) : SS mi pc s_cast := by
  intro N p l e R s m args below meth c Q cells slots adr D cI cC cG A0 H0 σ0 C K r F hZ hC hK hR ls st σ lsA H locs h hw hl
  obtain ⟨hx, hb, hml, hown, hts, hKK, hfr, hlo, hce, hsl, hnw, hinj, hA0, hcl0, hN40⟩ := id F
  rcases st with _ | ⟨x0 | x0 | x0 | x0, _ | ⟨x1 | x1 | x1 | x1, _ | ⟨x2 | x2 | x2 | x2, st⟩⟩⟩
  all_goals first | (cases h; done) | skip
  have h : (if kd x2 = 11 then (if (0 ≤ wr x1 ∧ wr x1 < ln x2) ∧ 0 ≤ x0 ∧ x0 < 65536 then K (pc + 1) ls st (up σ x2 (wr x1).toNat x0) else none) else none) = some r := h
  by_cases c0 : kd x2 = 11
  case neg => rw [if_neg c0] at h; cases h
  rw [if_pos c0] at h
  by_cases c1 : (0 ≤ wr x1 ∧ wr x1 < ln x2) ∧ 0 ≤ x0 ∧ x0 < 65536
  case neg => rw [if_neg c1] at h; cases h
  rw [if_pos c1] at h
  have hp := low_p (low_t (low_t hw)) c0 (by omega)
  have hpn := kd_lt c0 (by omega)
  have he := (cs_at (N := N) (adr := adr) (cI := cI) (cC := cC) (cG := cG) (σ := σ) hp).trans (by rw [cE_c c0])
  exact va_cast hx hb hKK hl.2.2.1 (cs_D hinj hA0) hl.2.2.2.1 x2 1 he rfl (w_in c1.1) hd (fun H1 locs1 hP hD hS => hK _ _ _ _ h (low_t (low_t (low_t hw))) _ _ _ (hl.put hp hpn (fun q hq => up_ne hq) (by rw [w_char c1.2]; exact cE_upC c0) hP hS))
theorem ss_alen {mi pc : Nat} (hd : decode (mB mi) pc = .ok (.arraylength, 1)) : SS mi pc s_alen := by
  intro N p l e R s m args below meth c Q cells slots adr D cI cC cG A0 H0 σ0 C K r F hZ hC hK hR ls st σ lsA H locs h hw hl
  obtain ⟨hx, hb, hml, hown, hts, hKK, hfr, hlo, hce, hsl, hnw, hinj, hA0, hcl0, hN40⟩ := id F
  rcases st with _ | ⟨x0 | x0 | x0 | x0, st⟩
  all_goals first | (cases h; done) | skip
  have h : (if 10 ≤ kd x0 ∧ kd x0 < 13 then K (pc + 1) ls (vI (ln x0) :: st) σ else none) = some r := h
  by_cases c0 : 10 ≤ kd x0 ∧ kd x0 < 13
  case neg => rw [if_neg c0] at h; cases h
  rw [if_pos c0] at h
  have hp : x0 < N := low_p (c := kd x0) hw rfl (by omega)
  have k0 := hK _ _ _ _ h (low_i (low_t hw)) _ _ _ hl
  rcases (show kd x0 = 10 ∨ kd x0 = 11 ∨ kd x0 = 12 by omega) with q | q | q
  · exact va_alen hx hb hKK hl.2.2.1 x0 0 ((cs_at (N := N) (adr := adr) (cI := cI) (cC := cC) (cG := cG) (σ := σ) hp).trans (by rw [cE_i q])) rfl (v := Int32.ofInt (ln x0)) rfl hd k0
  · exact va_alen hx hb hKK hl.2.2.1 x0 1 ((cs_at (N := N) (adr := adr) (cI := cI) (cC := cC) (cG := cG) (σ := σ) hp).trans (by rw [cE_c q])) rfl (v := Int32.ofInt (ln x0)) rfl hd k0
  · exact va_alen hx hb hKK hl.2.2.1 x0 2 ((cs_at (N := N) (adr := adr) (cI := cI) (cC := cC) (cG := cG) (σ := σ) hp).trans (by rw [cE_g q])) rfl (v := Int32.ofInt (ln x0)) rfl hd k0
theorem stk_cat (adr : Nat → Nat) : ∀ st : List AV, ((stk adr st).map fun v => v.category).sum ≤ 2 * st.length
  | [] => Nat.le_refl _
  | v :: st => by
    have ih := stk_cat adr st
    have h1 : (cvD adr v).category ≤ 2 := by rcases lv_cat (cvD adr v) with q | q <;> omega
    show (cvD adr v).category + ((stk adr st).map fun v => v.category).sum ≤ 2 * (st.length + 1)
    omega
theorem ss_copy {mi pc idx : Nat} (hd : decode (mB mi) pc = .ok (.invokestatic idx, 3)) (h1 : Cond.methodLink (mY mi).cls idx arraycopyName ∈ gwl) (h2 : Cond.native arraycopyName ∈ gwl) (h3 : Cond.static arraycopyName ∈ gwl) (h4 : Cond.initialized "java/lang/System" ∈ gwl) (hf : 1 ≤ mFr mi) (hlm : 26 ≤ mLo mi) : SS mi pc s_copy := by
  intro N p l e R s m args below meth c Q cells slots adr D cI cC cG A0 H0 σ0 C K r F hZ hC hK hR ls st σ lsA H locs h hw hl
  obtain ⟨hx, hb, hml, hown, hts, hKK, hfr, hlo, hce, hsl, hnw, hinj, hA0, hcl0, hN40⟩ := id F
  rcases st with _ | ⟨x0 | x0 | x0 | x0, _ | ⟨x1 | x1 | x1 | x1, _ | ⟨x2 | x2 | x2 | x2, _ | ⟨x3 | x3 | x3 | x3, _ | ⟨x4 | x4 | x4 | x4, st⟩⟩⟩⟩⟩
  all_goals first | (cases h; done) | skip
  have h : (if kd x4 = 10 ∧ kd x2 = 10 ∧ st.length ≤ 4 then (if 0 ≤ wr x3 ∧ 0 ≤ wr x1 ∧ 0 ≤ wr x0 ∧ wr x3 + wr x0 ≤ ln x4 ∧ wr x1 + wr x0 ≤ ln x2 then K (pc + 3) ls st (cpy σ x4 (wr x3).toNat x2 (wr x1).toNat (wr x0).toNat) else none) else none) = some r := h
  by_cases c0 : kd x4 = 10 ∧ kd x2 = 10 ∧ st.length ≤ 4
  case neg => rw [if_neg c0] at h; cases h
  rw [if_pos c0] at h
  by_cases c1 : 0 ≤ wr x3 ∧ 0 ≤ wr x1 ∧ 0 ≤ wr x0 ∧ wr x3 + wr x0 ≤ ln x4 ∧ wr x1 + wr x0 ≤ ln x2
  case neg => rw [if_neg c1] at h; cases h
  rw [if_pos c1] at h
  obtain ⟨q1, q2, q3, q4, q5⟩ := c1
  have hp4 := low_p (low_t (low_t (low_t (low_t hw)))) c0.1 (by omega)
  have hpn2 := kd_lt c0.2.1 (by omega)
  have hp2 := low_p (low_t (low_t hw)) c0.2.1 (by omega)
  have he4 := (cs_at (N := N) (adr := adr) (cI := cI) (cC := cC) (cG := cG) (σ := σ) hp4).trans (by rw [cE_i c0.1])
  have he2 := (cs_at (N := N) (adr := adr) (cI := cI) (cC := cC) (cG := cG) (σ := σ) hp2).trans (by rw [cE_i c0.2.1])
  have hc : ((st.map (cvD adr)).map fun v => v.category).sum ≤ 2 * st.length := stk_cat adr st
  have hwd : nativeFrameWords "java/lang/System" "arraycopy" 5 = 7 := by decide
  refine va_copyi hx hb (hml.trans hl.1.1.symm) hown (hts _ h1) (hts _ h2) (hts _ h3) (hts _ h4) hKK hl.2.2.1 (cs_D hinj hA0) hl.2.2.2.1 x4 x2 0 0 he4 he2 rfl rfl rfl (fun z => absurd ((w_lt0 _).mp z) (by omega)) (fun z => absurd ((w_lt0 _).mp z) (by omega)) (fun z => absurd ((w_lt0 _).mp z) (by omega)) ?_ ?_ (fun _ _ => rfl) (by omega) (by rw [hwd]; omega) hd (fun H1 locs1 hP hD hS => hK _ _ _ _ h (low_t (low_t (low_t (low_t (low_t hw))))) _ _ _ (hl.put hp2 hpn2 (fun q hq => cpy_ne hq) (cE_cpy c0.2.1) hP hS))
  · show (wr x3).toNat + (wr x0).toNat ≤ ln x4
    omega
  · show (wr x1).toNat + (wr x0).toNat ≤ ln x2
    omega
theorem ss_max {mi pc idx : Nat} (hd : decode (mB mi) pc = .ok (.invokestatic idx, 3)) (h1 : Cond.methodLink (mY mi).cls idx Lib.Math.max.name ∈ gwl) (h2 : Cond.static Lib.Math.max.name ∈ gwl) (h3 : Cond.initialized "java/lang/Math" ∈ gwl) (h4 : Cond.code Lib.Math.max.name Lib.Math.max.code 2 (some .int) ∈ gwl) (hf : 1 ≤ mFr mi) (hlm : 21 ≤ mLo mi) : SS mi pc s_max := by
  intro N p l e R s m args below meth c Q cells slots adr D cI cC cG A0 H0 σ0 C K r F hZ hC hK hR ls st σ lsA H locs h hw hl
  obtain ⟨hx, hb, hml, hown, hts, hKK, hfr, hlo, hce, hsl, hnw, hinj, hA0, hcl0, hN40⟩ := id F
  rcases st with _ | ⟨x0 | x0 | x0 | x0, _ | ⟨x1 | x1 | x1 | x1, st⟩⟩
  all_goals first | (cases h; done) | skip
  have h : (if st.length ≤ 4 then K (pc + 3) ls (vI (if wr x1 < wr x0 then x0 else x1) :: st) σ else none) = some r := h
  by_cases c0 : st.length ≤ 4
  case neg => rw [if_neg c0] at h; cases h
  rw [if_pos c0] at h
  have hc : ((st.map (cvD adr)).map fun v => v.category).sum ≤ 2 * st.length := stk_cat adr st
  have k0 := hK _ _ _ _ h (low_i (low_t (low_t hw))) _ _ _ hl
  refine va_mmax hx hb (hml.trans hl.1.1.symm) hown (hts _ h1) (hts _ h2) (hts _ h3) (hts _ h4) (by omega) (by omega) hce hsl hd ?_
  by_cases c1 : wr x1 < wr x0
  · rw [if_pos ((w_lt x1 x0).mpr c1)]
    rw [if_pos c1] at k0
    exact k0
  · rw [if_neg (fun z => c1 ((w_lt x1 x0).mp z))]
    rw [if_neg c1] at k0
    exact k0
theorem ss_min {mi pc idx : Nat} (hd : decode (mB mi) pc = .ok (.invokestatic idx, 3)) (h1 : Cond.methodLink (mY mi).cls idx Lib.Math.min.name ∈ gwl) (h2 : Cond.static Lib.Math.min.name ∈ gwl) (h3 : Cond.initialized "java/lang/Math" ∈ gwl) (h4 : Cond.code Lib.Math.min.name Lib.Math.min.code 2 (some .int) ∈ gwl) (hf : 1 ≤ mFr mi) (hlm : 21 ≤ mLo mi) : SS mi pc s_min := by
  intro N p l e R s m args below meth c Q cells slots adr D cI cC cG A0 H0 σ0 C K r F hZ hC hK hR ls st σ lsA H locs h hw hl
  obtain ⟨hx, hb, hml, hown, hts, hKK, hfr, hlo, hce, hsl, hnw, hinj, hA0, hcl0, hN40⟩ := id F
  rcases st with _ | ⟨x0 | x0 | x0 | x0, _ | ⟨x1 | x1 | x1 | x1, st⟩⟩
  all_goals first | (cases h; done) | skip
  have h : (if st.length ≤ 4 then K (pc + 3) ls (vI (if wr x0 < wr x1 then x0 else x1) :: st) σ else none) = some r := h
  by_cases c0 : st.length ≤ 4
  case neg => rw [if_neg c0] at h; cases h
  rw [if_pos c0] at h
  have hc : ((st.map (cvD adr)).map fun v => v.category).sum ≤ 2 * st.length := stk_cat adr st
  have k0 := hK _ _ _ _ h (low_i (low_t (low_t hw))) _ _ _ hl
  refine va_mmin hx hb (hml.trans hl.1.1.symm) hown (hts _ h1) (hts _ h2) (hts _ h3) (hts _ h4) (by omega) (by omega) hce hsl hd ?_
  by_cases c1 : wr x0 < wr x1
  · rw [if_pos ((w_lt x0 x1).mpr c1)]
    rw [if_pos c1] at k0
    exact k0
  · rw [if_neg (fun z => c1 ((w_lt x0 x1).mp z))]
    rw [if_neg c1] at k0
    exact k0
theorem ss_iret {mi pc : Nat} (hd : decode (mB mi) pc = .ok (.ireturn, 1)) (hr : mRet mi = some .int) (hk : mRk mi = 1) : SS mi pc s_iret := by
  intro N p l e R s m args below meth c Q cells slots adr D cI cC cG A0 H0 σ0 C K r F hZ hC hK hR ls st σ lsA H locs h hw hl
  obtain ⟨hx, hb, hml, hown, hts, hKK, hfr, hlo, hce, hsl, hnw, hinj, hA0, hcl0, hN40⟩ := id F
  rcases st with _ | ⟨x0 | x0 | x0 | x0, _ | ⟨x1, st⟩⟩
  all_goals first | (cases h; done) | skip
  have h : some (vI x0, σ) = some r := h
  cases h
  exact hR _ _ _ _ _ hl.2.2.1 hl.2.2.2.1 hl.2.2.2.2.1 (Or.inr (Or.inl ⟨x0, .int, hk, rfl, hr, rfl, hd, rfl⟩))
theorem ss_zret {mi pc : Nat} (hd : decode (mB mi) pc = .ok (.ireturn, 1)) (hr : mRet mi = some .boolean) (hk : mRk mi = 1) : SS mi pc s_zret := by
  intro N p l e R s m args below meth c Q cells slots adr D cI cC cG A0 H0 σ0 C K r F hZ hC hK hR ls st σ lsA H locs h hw hl
  obtain ⟨hx, hb, hml, hown, hts, hKK, hfr, hlo, hce, hsl, hnw, hinj, hA0, hcl0, hN40⟩ := id F
  rcases st with _ | ⟨x0 | x0 | x0 | x0, _ | ⟨x1, st⟩⟩
  all_goals first | (cases h; done) | skip
  have h : (if x0 = 0 ∨ x0 = 1 then some (vI x0, σ) else none) = some r := h
  by_cases c0 : x0 = 0 ∨ x0 = 1
  case neg => rw [if_neg c0] at h; cases h
  rw [if_pos c0] at h
  cases h
  exact hR _ _ _ _ _ hl.2.2.1 hl.2.2.2.1 hl.2.2.2.2.1 (Or.inr (Or.inl ⟨x0, .boolean, hk, rfl, hr, by rcases c0 with rfl | rfl <;> rfl, hd, rfl⟩))
theorem ss_cret {mi pc : Nat} (hd : decode (mB mi) pc = .ok (.ireturn, 1)) (hr : mRet mi = some .char) (hk : mRk mi = 1) : SS mi pc s_cret := by
  intro N p l e R s m args below meth c Q cells slots adr D cI cC cG A0 H0 σ0 C K r F hZ hC hK hR ls st σ lsA H locs h hw hl
  obtain ⟨hx, hb, hml, hown, hts, hKK, hfr, hlo, hce, hsl, hnw, hinj, hA0, hcl0, hN40⟩ := id F
  rcases st with _ | ⟨x0 | x0 | x0 | x0, _ | ⟨x1, st⟩⟩
  all_goals first | (cases h; done) | skip
  have h : (if 0 ≤ x0 ∧ x0 < 65536 then some (vI x0, σ) else none) = some r := h
  by_cases c0 : 0 ≤ x0 ∧ x0 < 65536
  case neg => rw [if_neg c0] at h; cases h
  rw [if_pos c0] at h
  cases h
  refine hR _ _ _ _ _ hl.2.2.1 hl.2.2.2.1 hl.2.2.2.2.1 (Or.inr (Or.inl ⟨x0, .char, hk, rfl, hr, ?_, hd, rfl⟩))
  have e : narrow .char (.int (Int32.ofInt x0)) = .int ((Int32.ofInt x0).toUInt32 % 65536).toInt32 := by
    have e1 := vp_nar_char (Int32.ofInt x0)
    unfold vp_nar at e1
    first | rfl | simp [narrow]
  rw [e, w_i2c, Int.emod_eq_of_lt c0.1 c0.2]
theorem ss_vret {mi pc : Nat} (hd : decode (mB mi) pc = .ok (.return_, 1)) (hr : mRet mi = none) (hk : mRk mi = 0) : SS mi pc s_vret := by
  intro N p l e R s m args below meth c Q cells slots adr D cI cC cG A0 H0 σ0 C K r F hZ hC hK hR ls st σ lsA H locs h hw hl
  obtain ⟨hx, hb, hml, hown, hts, hKK, hfr, hlo, hce, hsl, hnw, hinj, hA0, hcl0, hN40⟩ := id F
  rcases st with _ | ⟨x0, st⟩
  · have h : some (vI 0, σ) = some r := h
    cases h
    exact hR _ _ _ _ _ hl.2.2.1 hl.2.2.2.1 hl.2.2.2.2.1 (Or.inl ⟨hk, hr, hd, rfl⟩)
  · cases h
theorem ss_aret {mi pc : Nat} {Cn : String} (hd : decode (mB mi) pc = .ok (.areturn, 1)) (hr : mRet mi = some (.object Cn)) (hk : mRk mi = 2) : SS mi pc s_aret := by
  intro N p l e R s m args below meth c Q cells slots adr D cI cC cG A0 H0 σ0 C K r F hZ hC hK hR ls st σ lsA H locs h hw hl
  obtain ⟨hx, hb, hml, hown, hts, hKK, hfr, hlo, hce, hsl, hnw, hinj, hA0, hcl0, hN40⟩ := id F
  rcases st with _ | ⟨x0 | x0 | x0 | x0, _ | ⟨x1, st⟩⟩
  all_goals first | (cases h; done) | skip
  have h : some (vR x0, σ) = some r := h
  cases h
  exact hR _ _ _ _ _ hl.2.2.1 hl.2.2.2.1 hl.2.2.2.2.1 (Or.inr (Or.inr ⟨x0, Cn, hk, rfl, hr, hd, rfl⟩))
theorem sw_t (x : Int32) (lo : Int) : ∀ (offs : List Int) (i : Nat) (tb : List (Int × Nat)) (pc d : Nat) (K : Nat → Res) (r : AV × Sg), swk K d x.toInt tb = some r → tb = (offs.zipIdx i).map (fun q => (lo + q.2, ((pc : Int) + q.1).toNat)) → lo + i ≤ x.toInt → x.toInt < lo + i + offs.length → ∃ off, offs[(x.toInt - (lo + i)).toNat]? = some off ∧ K ((pc : Int) + off).toNat = some r
  | [], i, tb, pc, d, K, r => fun h e h1 h2 => by simp at h2; omega
  | o :: os, i, tb, pc, d, K, r => fun h e h1 h2 => by
    subst e
    have h : (if x.toInt = lo + (i : Int) then K ((pc : Int) + o).toNat else swk K d x.toInt ((os.zipIdx (i + 1)).map (fun q => (lo + q.2, ((pc : Int) + q.1).toNat)))) = some r := h
    by_cases c0 : x.toInt = lo + (i : Int)
    · rw [if_pos c0] at h
      exact ⟨o, by rw [c0]; simp, h⟩
    · rw [if_neg c0] at h
      obtain ⟨off, e1, e2⟩ := sw_t x lo os (i + 1) _ pc d K r h rfl (by omega) (by simp at h2; omega)
      refine ⟨off, ?_, e2⟩
      rw [show (x.toInt - (lo + (i : Int))).toNat = (x.toInt - (lo + ((i + 1 : Nat) : Int))).toNat + 1 by omega]
      exact e1
theorem sw_o (x : Int) : ∀ (tb : List (Int × Nat)) (d : Nat) (K : Nat → Res) (r : AV × Sg), swk K d x tb = some r → (∀ q ∈ tb, x ≠ q.1) → K d = some r
  | [], d, K, r => fun h _ => h
  | q :: tb, d, K, r => fun h hn => by
    have h : (if x = q.1 then K q.2 else swk K d x tb) = some r := h
    rw [if_neg (hn q List.mem_cons_self)] at h
    exact sw_o x tb d K r h (fun q' hq => hn q' (List.mem_cons_of_mem _ hq))
theorem ss_tsw {mi pc d len : Nat} {df lo hi : Int} {offs : Array Int} {tb : List (Int × Nat)} (hd : decode (mB mi) pc = .ok (.tableswitch df lo hi offs, len)) (ht : tb = (offs.toList.zipIdx 0).map (fun q => (lo + q.2, ((pc : Int) + q.1).toNat))) (hn : lo + (offs.toList.length : Int) = hi + 1) (hpos : ∀ o ∈ offs.toList, 0 ≤ (pc : Int) + o) (hdf : (pc : Int) + df = (d : Int)) : SS mi pc (s_switch tb d) := by
  intro N p l e R s m args below meth c Q cells slots adr D cI cC cG A0 H0 σ0 C K r F hZ hC hK hR ls st σ lsA H locs h hw hl
  obtain ⟨hx, hb, hml, hown, hts, hKK, hfr, hlo, hce, hsl, hnw, hinj, hA0, hcl0, hN40⟩ := id F
  rcases st with _ | ⟨x0 | x0 | x0 | x0, st⟩
  all_goals first | (cases h; done) | skip
  have h : swk (fun t => K t ls st σ) d (wr x0) tb = some r := h
  by_cases c0 : lo ≤ wr x0 ∧ wr x0 ≤ hi
  · obtain ⟨off, e1, e2⟩ := sw_t (Int32.ofInt x0) lo offs.toList 0 tb pc d _ r h ht (by have := c0.1; show lo + ((0 : Nat) : Int) ≤ wr x0; omega) (by have := c0.2; show wr x0 < lo + ((0 : Nat) : Int) + (offs.toList.length : Int); omega)
    have hm : off ∈ offs.toList := List.mem_of_getElem? e1
    refine lv_tableIn hx hb hd (Int.not_lt.mpr c0.1) (Int.not_lt.mpr c0.2) (off := off) (tgt := ((pc : Int) + off).toNat) ?_ (by have := hpos off hm; omega) (hK _ _ _ _ e2 (low_t hw) _ _ _ hl)
    rw [← Array.getElem?_toList]
    have e3 : (Int32.ofInt x0).toInt - (lo + ((0 : Nat) : Int)) = (Int32.ofInt x0).toInt - lo := by omega
    rw [e3] at e1
    exact e1
  · have h2 := sw_o (wr x0) tb d _ r h (fun q hq z => by
      subst ht
      obtain ⟨w, hw9, rfl⟩ := List.mem_map.mp hq
      obtain ⟨a, b⟩ := w
      have hw9 := List.mem_zipIdx hw9
      dsimp only at z
      simp at hn hw9
      omega)
    refine lv_tableOut hx hb hd ?_ hdf (hK _ _ _ _ h2 (low_t hw) _ _ _ hl)
    show wr x0 < lo ∨ hi < wr x0
    omega
theorem sw_l (x : Int) : ∀ (ps : List (Int × Int)) (tb : List (Int × Nat)) (pc d : Nat) (df : Int) (K : Nat → Res) (r : AV × Sg), swk K d x tb = some r → tb = ps.map (fun q => (q.1, ((pc : Int) + q.2).toNat)) → (∀ q ∈ ps, 0 ≤ (pc : Int) + q.2) → (pc : Int) + df = (d : Int) → ∃ t : Nat, (pc : Int) + Op.lookupswitch.offset ps df x = (t : Int) ∧ K t = some r
  | [], tb, pc, d, df, K, r => fun h e _ hdf => by
    subst e
    exact ⟨d, by unfold Op.lookupswitch.offset; exact hdf, h⟩
  | q :: ps, tb, pc, d, df, K, r => fun h e hp hdf => by
    subst e
    obtain ⟨a, b⟩ := q
    have h : (if x = a then K ((pc : Int) + b).toNat else swk K d x (ps.map (fun q => (q.1, ((pc : Int) + q.2).toNat)))) = some r := h
    by_cases c0 : x = a
    · rw [if_pos c0] at h
      have := hp _ List.mem_cons_self
      dsimp only at this
      exact ⟨_, by unfold Op.lookupswitch.offset; simp only [c0]; simp; omega, h⟩
    · rw [if_neg c0] at h
      obtain ⟨t, e1, e2⟩ := sw_l x ps _ pc d df K r h rfl (fun q hq => hp q (List.mem_cons_of_mem _ hq)) hdf
      refine ⟨t, ?_, e2⟩
      unfold Op.lookupswitch.offset
      have c1 : ¬ a = x := fun z => c0 z.symm
      simp [c0, c1]
      exact e1
theorem ss_lsw {mi pc d len : Nat} {df : Int} {ps : Array (Int × Int)} {tb : List (Int × Nat)} (hd : decode (mB mi) pc = .ok (.lookupswitch df ps, len)) (ht : tb = ps.toList.map (fun q => (q.1, ((pc : Int) + q.2).toNat))) (hpos : ∀ q ∈ ps.toList, 0 ≤ (pc : Int) + q.2) (hs : (ps.toList.zip (ps.toList.drop 1)).all (fun (a, next) => a.1 < next.1) = true) (hdf : (pc : Int) + df = (d : Int)) : SS mi pc (s_switch tb d) := by
  intro N p l e R s m args below meth c Q cells slots adr D cI cC cG A0 H0 σ0 C K r F hZ hC hK hR ls st σ lsA H locs h hw hl
  obtain ⟨hx, hb, hml, hown, hts, hKK, hfr, hlo, hce, hsl, hnw, hinj, hA0, hcl0, hN40⟩ := id F
  rcases st with _ | ⟨x0 | x0 | x0 | x0, st⟩
  all_goals first | (cases h; done) | skip
  have h : swk (fun t => K t ls st σ) d (wr x0) tb = some r := h
  obtain ⟨t, e1, e2⟩ := sw_l (wr x0) ps.toList tb pc d df _ r h ht hpos hdf
  exact lv_lookup hx hb hd hs rfl e1 (hK _ _ _ _ e2 (low_t hw) _ _ _ hl)
end
section
/-! CALLS, AND THE THEOREM -/
theorem Ok_blind {N : Nat} {D : va_G} {adr : Nat → Nat} {cI cC cG : ClassId} {σ : Sg} {vs : List Value} : FrameBlind (va_Pc vs (fun U => va_P D vwCl (cs N adr cI cC cG σ) U.heap ∧ va_K D vwCl (tys3 cI cC cG) U ∧ va_Nw nestW U)) := fun a U g mk h => ⟨h.1, h.2.1, va_K.moved (u := U) (U := U.calling g mk a) (Vm.Alike.refl U.vm) h.2.2.1, va_Nw.same (u := U) (U := U.calling g mk a) rfl rfl h.2.2.2⟩
section AMC
variable {p : Program} {l : Launch} {e : Env} {R : Room} {s : State} {m : MethodId} {args : Array Value} {below : List Frame} {meth : Method} {c : Code} {H : Heap} {locs : List Loc} {cells slots : Nat} {Q : State → Prop}
theorem am_after {D : va_G} {W1 : va_W} {A0 A1 : Nat → Prop} {H0 : Heap} {v0 : Option Value} {pc : Nat} {ls : Array Slot} {rest st0 : List Value} (hr : va_Run p l e R s m args below meth c H locs cells slots 0 0 (F0 m pc ls st0) rest (fun t0 oc t => oc = .returned v0 ∧ va_P D vwCl W1 t.heap ∧ va_F A1 t0 t) A1) (hS : va_S A0 H0 H locs) (hA : ∀ q, A1 q → A0 q)
    (kk : ∀ (H1 : Heap) (locs1 : List Loc), va_P D vwCl W1 H1 → va_S A0 H0 H1 locs1 → W p l e R s m args below meth c H1 locs1 cells slots Q (F0 m (pc + 3) ls (v0.toList ++ rest))) : W p l e R s m args below meth c H locs cells slots Q (F0 m pc ls st0) := by
  intro T hT X
  obtain ⟨v, st₀, t, T', L, h0, X', hL, e1, e2, ⟨hv, hp, hz, hk⟩, st⟩ := hr T hT X
  cases hv
  rw [h0] at hz hk
  obtain ⟨t2, a1, b1⟩ := kk T'.heap (locs ++ L) (by rw [e1]; exact hp)
    ⟨Nat.le_trans hS.1 (by rw [e1]; exact hz), fun q h1 h2 => by rw [e1, hk q (Nat.lt_of_lt_of_le h1 hS.1) (fun z => h2 (hA q z))]; exact hS.2.1 q h1 h2, fun q hq => by
      rcases List.mem_append.mp hq with h | h
      · exact hS.2.2 q h
      · exact hA _ (hL q h)⟩ T' rfl X'
  exact ⟨t2, st t2 a1, b1⟩
end AMC
theorem kcI_some {r : Res} {k : Int → Sg → Res} {q : AV × Sg} (h : kcI r k = some q) : ∃ x s, r = some (vI x, s) ∧ k x s = some q := by
  rcases r with _ | ⟨x | x | x | x, s⟩
  · cases h
  · exact ⟨x, s, rfl, h⟩
  · cases h
  · cases h
  · cases h
theorem kcR_some {r : Res} {p0 : Nat} {k : Sg → Res} {q : AV × Sg} (h : kcR p0 r k = some q) : ∃ s, r = some (vR p0, s) ∧ k s = some q := by
  rcases r with _ | ⟨x | x | x | x, s⟩
  · cases h
  · cases h
  · have h3 : (if x = p0 then k s else none) = some q := h
    by_cases c0 : x = p0
    · rw [if_pos c0] at h3
      exact ⟨s, by rw [c0], h3⟩
    · rw [if_neg c0] at h3; cases h3
  · cases h
  · cases h
theorem kcV_some {r : Res} {k : Sg → Res} {q : AV × Sg} (h : kcV r k = some q) : ∃ v s, r = some (v, s) ∧ k s = some q := by
  rcases r with _ | ⟨v, s⟩
  · cases h
  · exact ⟨v, s, rfl, h⟩
theorem Rl.call {N mi : Nat} {adr : Nat → Nat} {D : va_G} {cI cC cG : ClassId} {A0 : Nat → Prop} {H0 : Heap} {σ0 σ σ' : Sg} {ls : List AV} {lsA : Array Slot} {H H1 : Heap} {locs locs1 : List Loc} (h : Rl N mi adr D cI cC cG A0 H0 σ0 σ ls lsA H locs) (hs : ∀ j i, nP ≤ j → σ' j i = σ j i) (hP : va_P D vwCl (cs N adr cI cC cG σ') H1) (hS : va_S A0 H0 H1 locs1) : Rl N mi adr D cI cC cG A0 H0 σ0 σ' ls lsA H1 locs1 := ⟨h.1, h.2.1, hP, hS, fun q j hj => (hs q j hj).trans (h.2.2.2.2.1 q j hj), h.2.2.2.2.2⟩
theorem AP_sub {N : Nat} {adr : Nat → Nat} {A0 : Nat → Prop} (hA : ∀ i, i < N → A0 (adr i)) : ∀ q, AP N adr q → A0 q := fun q ⟨i, h1, h2⟩ => by rw [h2]; exact hA i h1
theorem stk_split (adr : Nat → Nat) (st : List AV) (n p : Nat) (h : st[n]? = some (vR p)) : stk adr st = (stk adr (st.take n).reverse).reverse ++ .ref (adr p) :: stk adr (st.drop (n + 1)) ∧ stk adr (st.take (n + 1)).reverse = .ref (adr p) :: stk adr (st.take n).reverse := by
  obtain ⟨hl, hv⟩ := List.getElem?_eq_some_iff.mp h
  have e1 : st.take (n + 1) = st.take n ++ [vR p] := by rw [List.take_succ, h]; rfl
  have e2 : st = st.take n ++ vR p :: st.drop (n + 1) := by
    have := List.take_append_drop (n + 1) st
    rw [e1] at this
    simpa using this.symm
  constructor
  · unfold stk
    rw [List.map_reverse, List.reverse_reverse]
    conv => lhs; rw [e2]
    rw [List.map_append]
    rfl
  · rw [e1]
    unfold stk
    simp [cvD]
theorem stk_splitS (adr : Nat → Nat) (st : List AV) (n : Nat) : stk adr st = (stk adr (st.take n).reverse).reverse ++ stk adr (st.drop n) := by
  unfold stk
  rw [List.map_reverse, List.reverse_reverse, ← List.map_append, List.take_append_drop]
theorem ss_callI {mi pc idx ci m' n N : Nat} {C0 : String} {T : u_T} (hd : decode (mB mi) pc = .ok (.invokevirtual idx, 3)) (hcl : vwCl[ci]? = some (C0, T, N)) (hci : ci < 10) (hw1 : Cond.methodLink (mY mi).cls idx (mY m') ∈ gwl) (hw2 : Cond.instanceMethod (mY m') ∈ gwl) (hw3 : Cond.selects C0 (mY m') (mY m') ∈ gwl) (hw4 : Cond.initialized C0 ∈ gwl) (hw5 : Cond.code (mY m') (mB m') (nlm m') (mRet m') ∈ gwl) (hy : (mY m').cls = C0 ∧ (mY m').cls ≠ "java/lang/invoke/MethodHandle" ∧ (mY m').cls ≠ "java/lang/invoke/VarHandle" ∧ (parseMethodDescriptor (mY m').desc).map (fun d => d.parameters.length) = some n) (hrk : mRk m' = 1) (hfm : mFr m' + 1 ≤ mFr mi) (hlm : 8 + (nlm m' + 11) + mLo m' ≤ mLo mi) (hnl : n + 1 ≤ nlm m') : SS mi pc (s_call ci n (s_scallI m' (n + 1))) := by
  intro N p l e R s m args below meth c Q cells slots adr D cI cC cG A0 H0 σ0 C K r F hZ hC hK hR ls st σ lsA H locs h hw hl
  obtain ⟨hx, hb, hml, hown, hts, hKK, hfr, hlo, hce, hsl, hnw, hinj, hA0, hcl0, hN40⟩ := id F
  unfold s_call at h
  cases hst : st[n]? with
  | none => rw [hst] at h; cases h
  | some v0 =>
    rw [hst] at h
    rcases v0 with x0 | x0 | x0 | x0
    · cases h
    case inr.inr.inl => cases h
    case inr.inr.inr => cases h
    have h : (if kd x0 = ci then s_scallI m' (n + 1) C K pc ls st σ else none) = some r := h
    by_cases c0 : kd x0 = ci
    case neg => rw [if_neg c0] at h; cases h
    rw [if_pos c0] at h
    unfold s_scallI at h
    by_cases c1 : (st.drop (n + 1)).length ≤ 4 ∧ n + 1 ≤ st.length ∧ (st.take (n + 1)).all gA = true
    case neg => rw [if_neg c1] at h; cases h
    rw [if_pos c1] at h
    obtain ⟨x, σ1, e1, e2⟩ := kcI_some h
    obtain ⟨hM, hi⟩ := hC _ _ _ _ e1 hfm (by rw [List.all_reverse]; exact c1.2.2) (by rw [List.length_reverse, List.length_take]; omega) (low_r hw)
    obtain ⟨s1, s2⟩ := stk_split adr st n x0 hst
    rw [s2] at hM
    have hp := low_p (st := []) (low_c (hw _ (List.mem_of_getElem? hst)) (fun _ z => absurd z List.not_mem_nil)) c0 (by omega)
    have he := (cs_at (N := N) (adr := adr) (cI := cI) (cC := cC) (cG := cG) (σ := σ) hp).trans (by rw [cE_o c0 hci])
    have hc := stk_cat adr (st.drop (n + 1))
    have hasz : (stk adr (st.take n).reverse).length = n := by
      unfold stk
      rw [List.length_map, List.length_reverse, List.length_take]
      omega
    have hrun := va_runV (rest := stk adr (st.drop (n + 1))) (g := F0 m pc lsA (stk adr st)) (locs := locs) (cells := cells) (slots := slots) (p := p) (e := e) (below := below) (meth := meth) ⟨hx, hb, hml, hown, hts⟩ hM (cwV n hts (own := (mY mi).cls) (index := idx) (C := C0) (fun w hw9 => by
        rcases List.mem_append.mp hw9 with hw9 | hw9
        · refine gw_good (ws := [.methodLink (mY mi).cls idx (mY m'), .instanceMethod (mY m'), .selects C0 (mY m') (mY m'), .initialized C0]) (fun w hw8 => ?_) w hw9
          simp only [List.mem_cons, List.not_mem_nil, or_false] at hw8
          rcases hw8 with rfl | rfl | rfl | rfl <;> assumption
        · refine gw_good (ws := mW m') (fun w hw8 => ?_) w hw9
          rcases List.mem_cons.mp hw8 with rfl | hw7
          · exact hw5
          · exact hw7) rfl rfl rfl hy ⟨Nat.le_trans hfm hfr, Nat.le_trans hlm hlo⟩) ⟨Ok_blind, va_recv hKK hl.2.2.1 hcl he, fun U hU hW => ⟨rfl, by rw [hU]; exact hl.2.2.1, va_K.moved hW.alike hKK, va_Nw.warmM hW hnw⟩⟩ rfl hasz hl.1.1 s1 (lv_room (by omega)) hd ⟨hce, hsl⟩
    refine am_after hrun hl.2.2.2.1 (AP_sub hA0) (fun H1 locs1 hP hS => ?_)
    have k0 := hK _ _ _ _ e2 (low_i (low_d hw)) _ _ _ (hl.call hi hP hS)
    rw [hrk]
    exact k0
theorem ss_callV {mi pc idx ci m' n N : Nat} {C0 : String} {T : u_T} (hd : decode (mB mi) pc = .ok (.invokevirtual idx, 3)) (hcl : vwCl[ci]? = some (C0, T, N)) (hci : ci < 10) (hw1 : Cond.methodLink (mY mi).cls idx (mY m') ∈ gwl) (hw2 : Cond.instanceMethod (mY m') ∈ gwl) (hw3 : Cond.selects C0 (mY m') (mY m') ∈ gwl) (hw4 : Cond.initialized C0 ∈ gwl) (hw5 : Cond.code (mY m') (mB m') (nlm m') (mRet m') ∈ gwl) (hy : (mY m').cls = C0 ∧ (mY m').cls ≠ "java/lang/invoke/MethodHandle" ∧ (mY m').cls ≠ "java/lang/invoke/VarHandle" ∧ (parseMethodDescriptor (mY m').desc).map (fun d => d.parameters.length) = some n) (hrk : mRk m' = 0) (hfm : mFr m' + 1 ≤ mFr mi) (hlm : 8 + (nlm m' + 11) + mLo m' ≤ mLo mi) (hnl : n + 1 ≤ nlm m') : SS mi pc (s_call ci n (s_scallV m' (n + 1))) := by
  intro N p l e R s m args below meth c Q cells slots adr D cI cC cG A0 H0 σ0 C K r F hZ hC hK hR ls st σ lsA H locs h hw hl
  obtain ⟨hx, hb, hml, hown, hts, hKK, hfr, hlo, hce, hsl, hnw, hinj, hA0, hcl0, hN40⟩ := id F
  unfold s_call at h
  cases hst : st[n]? with
  | none => rw [hst] at h; cases h
  | some v0 =>
    rw [hst] at h
    rcases v0 with x0 | x0 | x0 | x0
    · cases h
    case inr.inr.inl => cases h
    case inr.inr.inr => cases h
    have h : (if kd x0 = ci then s_scallV m' (n + 1) C K pc ls st σ else none) = some r := h
    by_cases c0 : kd x0 = ci
    case neg => rw [if_neg c0] at h; cases h
    rw [if_pos c0] at h
    unfold s_scallV at h
    by_cases c1 : (st.drop (n + 1)).length ≤ 4 ∧ n + 1 ≤ st.length ∧ (st.take (n + 1)).all gA = true
    case neg => rw [if_neg c1] at h; cases h
    rw [if_pos c1] at h
    obtain ⟨v, σ1, e1, e2⟩ := kcV_some h
    obtain ⟨hM, hi⟩ := hC _ _ _ _ e1 hfm (by rw [List.all_reverse]; exact c1.2.2) (by rw [List.length_reverse, List.length_take]; omega) (low_r hw)
    obtain ⟨s1, s2⟩ := stk_split adr st n x0 hst
    rw [s2] at hM
    have hp := low_p (st := []) (low_c (hw _ (List.mem_of_getElem? hst)) (fun _ z => absurd z List.not_mem_nil)) c0 (by omega)
    have he := (cs_at (N := N) (adr := adr) (cI := cI) (cC := cC) (cG := cG) (σ := σ) hp).trans (by rw [cE_o c0 hci])
    have hc := stk_cat adr (st.drop (n + 1))
    have hasz : (stk adr (st.take n).reverse).length = n := by
      unfold stk
      rw [List.length_map, List.length_reverse, List.length_take]
      omega
    have hrun := va_runV (rest := stk adr (st.drop (n + 1))) (g := F0 m pc lsA (stk adr st)) (locs := locs) (cells := cells) (slots := slots) (p := p) (e := e) (below := below) (meth := meth) ⟨hx, hb, hml, hown, hts⟩ hM (cwV n hts (own := (mY mi).cls) (index := idx) (C := C0) (fun w hw9 => by
        rcases List.mem_append.mp hw9 with hw9 | hw9
        · refine gw_good (ws := [.methodLink (mY mi).cls idx (mY m'), .instanceMethod (mY m'), .selects C0 (mY m') (mY m'), .initialized C0]) (fun w hw8 => ?_) w hw9
          simp only [List.mem_cons, List.not_mem_nil, or_false] at hw8
          rcases hw8 with rfl | rfl | rfl | rfl <;> assumption
        · refine gw_good (ws := mW m') (fun w hw8 => ?_) w hw9
          rcases List.mem_cons.mp hw8 with rfl | hw7
          · exact hw5
          · exact hw7) rfl rfl rfl hy ⟨Nat.le_trans hfm hfr, Nat.le_trans hlm hlo⟩) ⟨Ok_blind, va_recv hKK hl.2.2.1 hcl he, fun U hU hW => ⟨rfl, by rw [hU]; exact hl.2.2.1, va_K.moved hW.alike hKK, va_Nw.warmM hW hnw⟩⟩ rfl hasz hl.1.1 s1 (lv_room (by omega)) hd ⟨hce, hsl⟩
    refine am_after hrun hl.2.2.2.1 (AP_sub hA0) (fun H1 locs1 hP hS => ?_)
    have k0 := hK _ _ _ _ e2 (low_d hw) _ _ _ (hl.call hi hP hS)
    rw [hrk]
    exact k0
theorem ss_callR {mi pc idx ci m' n N p0 : Nat} {C0 : String} {T : u_T} (hd : decode (mB mi) pc = .ok (.invokevirtual idx, 3)) (hcl : vwCl[ci]? = some (C0, T, N)) (hci : ci < 10) (hw1 : Cond.methodLink (mY mi).cls idx (mY m') ∈ gwl) (hw2 : Cond.instanceMethod (mY m') ∈ gwl) (hw3 : Cond.selects C0 (mY m') (mY m') ∈ gwl) (hw4 : Cond.initialized C0 ∈ gwl) (hw5 : Cond.code (mY m') (mB m') (nlm m') (mRet m') ∈ gwl) (hy : (mY m').cls = C0 ∧ (mY m').cls ≠ "java/lang/invoke/MethodHandle" ∧ (mY m').cls ≠ "java/lang/invoke/VarHandle" ∧ (parseMethodDescriptor (mY m').desc).map (fun d => d.parameters.length) = some n) (hp0 : p0 < 40) (hrk : mRk m' = 2) (hfm : mFr m' + 1 ≤ mFr mi) (hlm : 8 + (nlm m' + 11) + mLo m' ≤ mLo mi) (hnl : n + 1 ≤ nlm m') : SS mi pc (s_call ci n (s_scallR p0 m' (n + 1))) := by
  intro N p l e R s m args below meth c Q cells slots adr D cI cC cG A0 H0 σ0 C K r F hZ hC hK hR ls st σ lsA H locs h hw hl
  obtain ⟨hx, hb, hml, hown, hts, hKK, hfr, hlo, hce, hsl, hnw, hinj, hA0, hcl0, hN40⟩ := id F
  unfold s_call at h
  cases hst : st[n]? with
  | none => rw [hst] at h; cases h
  | some v0 =>
    rw [hst] at h
    rcases v0 with x0 | x0 | x0 | x0
    · cases h
    case inr.inr.inl => cases h
    case inr.inr.inr => cases h
    have h : (if kd x0 = ci then s_scallR p0 m' (n + 1) C K pc ls st σ else none) = some r := h
    by_cases c0 : kd x0 = ci
    case neg => rw [if_neg c0] at h; cases h
    rw [if_pos c0] at h
    unfold s_scallR at h
    by_cases c1 : (st.drop (n + 1)).length ≤ 4 ∧ n + 1 ≤ st.length ∧ (st.take (n + 1)).all gA = true
    case neg => rw [if_neg c1] at h; cases h
    rw [if_pos c1] at h
    obtain ⟨σ1, e1, e2⟩ := kcR_some h
    obtain ⟨hM, hi⟩ := hC _ _ _ _ e1 hfm (by rw [List.all_reverse]; exact c1.2.2) (by rw [List.length_reverse, List.length_take]; omega) (low_r hw)
    obtain ⟨s1, s2⟩ := stk_split adr st n x0 hst
    rw [s2] at hM
    have hp := low_p (st := []) (low_c (hw _ (List.mem_of_getElem? hst)) (fun _ z => absurd z List.not_mem_nil)) c0 (by omega)
    have he := (cs_at (N := N) (adr := adr) (cI := cI) (cC := cC) (cG := cG) (σ := σ) hp).trans (by rw [cE_o c0 hci])
    have hc := stk_cat adr (st.drop (n + 1))
    have hasz : (stk adr (st.take n).reverse).length = n := by
      unfold stk
      rw [List.length_map, List.length_reverse, List.length_take]
      omega
    have hrun := va_runV (rest := stk adr (st.drop (n + 1))) (g := F0 m pc lsA (stk adr st)) (locs := locs) (cells := cells) (slots := slots) (p := p) (e := e) (below := below) (meth := meth) ⟨hx, hb, hml, hown, hts⟩ hM (cwV n hts (own := (mY mi).cls) (index := idx) (C := C0) (fun w hw9 => by
        rcases List.mem_append.mp hw9 with hw9 | hw9
        · refine gw_good (ws := [.methodLink (mY mi).cls idx (mY m'), .instanceMethod (mY m'), .selects C0 (mY m') (mY m'), .initialized C0]) (fun w hw8 => ?_) w hw9
          simp only [List.mem_cons, List.not_mem_nil, or_false] at hw8
          rcases hw8 with rfl | rfl | rfl | rfl <;> assumption
        · refine gw_good (ws := mW m') (fun w hw8 => ?_) w hw9
          rcases List.mem_cons.mp hw8 with rfl | hw7
          · exact hw5
          · exact hw7) rfl rfl rfl hy ⟨Nat.le_trans hfm hfr, Nat.le_trans hlm hlo⟩) ⟨Ok_blind, va_recv hKK hl.2.2.1 hcl he, fun U hU hW => ⟨rfl, by rw [hU]; exact hl.2.2.1, va_K.moved hW.alike hKK, va_Nw.warmM hW hnw⟩⟩ rfl hasz hl.1.1 s1 (lv_room (by omega)) hd ⟨hce, hsl⟩
    refine am_after hrun hl.2.2.2.1 (AP_sub hA0) (fun H1 locs1 hP hS => ?_)
    have k0 := hK _ _ _ _ e2 (low_c (Or.inl (by omega)) (low_d hw)) _ _ _ (hl.call hi hP hS)
    rw [hrk]
    exact k0
theorem ss_scallI {mi pc idx m' n : Nat} (hd : decode (mB mi) pc = .ok (.invokestatic idx, 3)) (hw1 : Cond.methodLink (mY mi).cls idx (mY m') ∈ gwl) (hw2 : Cond.static (mY m') ∈ gwl) (hw4 : Cond.initialized (mY m').cls ∈ gwl) (hw5 : Cond.code (mY m') (mB m') (nlm m') (mRet m') ∈ gwl) (hy : (mY m').cls ≠ "java/lang/invoke/MethodHandle" ∧ (mY m').cls ≠ "java/lang/invoke/VarHandle" ∧ (parseMethodDescriptor (mY m').desc).map (fun d => d.parameters.length) = some n) (hrk : mRk m' = 1) (hfm : mFr m' + 1 ≤ mFr mi) (hlm : 8 + (nlm m' + 11) + mLo m' ≤ mLo mi) (hnl : n ≤ nlm m') : SS mi pc (s_scallI m' n) := by
  intro N p l e R s m args below meth c Q cells slots adr D cI cC cG A0 H0 σ0 C K r F hZ hC hK hR ls st σ lsA H locs h hw hl
  obtain ⟨hx, hb, hml, hown, hts, hKK, hfr, hlo, hce, hsl, hnw, hinj, hA0, hcl0, hN40⟩ := id F
  unfold s_scallI at h
  by_cases c1 : (st.drop n).length ≤ 4 ∧ n ≤ st.length ∧ (st.take n).all gA = true
  case neg => rw [if_neg c1] at h; cases h
  rw [if_pos c1] at h
  obtain ⟨x, σ1, e1, e2⟩ := kcI_some h
  obtain ⟨hM, hi⟩ := hC _ _ _ _ e1 hfm (by rw [List.all_reverse]; exact c1.2.2) (by rw [List.length_reverse, List.length_take]; omega) (low_r hw)
  have hc := stk_cat adr (st.drop n)
  have hasz : (stk adr (st.take n).reverse).length = n := by
    unfold stk
    rw [List.length_map, List.length_reverse, List.length_take]
    omega
  have hrun := va_runS (rest := stk adr (st.drop n)) (g := F0 m pc lsA (stk adr st)) (locs := locs) (cells := cells) (slots := slots) (p := p) (e := e) (below := below) (meth := meth) ⟨hx, hb, hml, hown, hts⟩ hM (va_cwS n hts (own := (mY mi).cls) (index := idx) (fun w hw9 => by
        rcases List.mem_append.mp hw9 with hw9 | hw9
        · refine gw_good (ws := [.methodLink (mY mi).cls idx (mY m'), .static (mY m'), .initialized (mY m').cls]) (fun w hw8 => ?_) w hw9
          simp only [List.mem_cons, List.not_mem_nil, or_false] at hw8
          rcases hw8 with rfl | rfl | rfl <;> assumption
        · refine gw_good (ws := mW m') (fun w hw8 => ?_) w hw9
          rcases List.mem_cons.mp hw8 with rfl | hw7
          · exact hw5
          · exact hw7) rfl rfl rfl hy ⟨Nat.le_trans hfm hfr, Nat.le_trans hlm hlo⟩) ⟨Ok_blind, fun U hU hW => ⟨rfl, by rw [hU]; exact hl.2.2.1, va_K.moved hW.alike hKK, va_Nw.warmM hW hnw⟩⟩ rfl hasz hl.1.1 (stk_splitS adr st n) (lv_room (by omega)) hd ⟨hce, hsl⟩
  refine am_after hrun hl.2.2.2.1 (AP_sub hA0) (fun H1 locs1 hP hS => ?_)
  have k0 := hK _ _ _ _ e2 (low_i (low_d hw)) _ _ _ (hl.call hi hP hS)
  rw [hrk]
  exact k0
theorem ss_scallV {mi pc idx m' n : Nat} (hd : decode (mB mi) pc = .ok (.invokestatic idx, 3)) (hw1 : Cond.methodLink (mY mi).cls idx (mY m') ∈ gwl) (hw2 : Cond.static (mY m') ∈ gwl) (hw4 : Cond.initialized (mY m').cls ∈ gwl) (hw5 : Cond.code (mY m') (mB m') (nlm m') (mRet m') ∈ gwl) (hy : (mY m').cls ≠ "java/lang/invoke/MethodHandle" ∧ (mY m').cls ≠ "java/lang/invoke/VarHandle" ∧ (parseMethodDescriptor (mY m').desc).map (fun d => d.parameters.length) = some n) (hrk : mRk m' = 0) (hfm : mFr m' + 1 ≤ mFr mi) (hlm : 8 + (nlm m' + 11) + mLo m' ≤ mLo mi) (hnl : n ≤ nlm m') : SS mi pc (s_scallV m' n) := by
  intro N p l e R s m args below meth c Q cells slots adr D cI cC cG A0 H0 σ0 C K r F hZ hC hK hR ls st σ lsA H locs h hw hl
  obtain ⟨hx, hb, hml, hown, hts, hKK, hfr, hlo, hce, hsl, hnw, hinj, hA0, hcl0, hN40⟩ := id F
  unfold s_scallV at h
  by_cases c1 : (st.drop n).length ≤ 4 ∧ n ≤ st.length ∧ (st.take n).all gA = true
  case neg => rw [if_neg c1] at h; cases h
  rw [if_pos c1] at h
  obtain ⟨v, σ1, e1, e2⟩ := kcV_some h
  obtain ⟨hM, hi⟩ := hC _ _ _ _ e1 hfm (by rw [List.all_reverse]; exact c1.2.2) (by rw [List.length_reverse, List.length_take]; omega) (low_r hw)
  have hc := stk_cat adr (st.drop n)
  have hasz : (stk adr (st.take n).reverse).length = n := by
    unfold stk
    rw [List.length_map, List.length_reverse, List.length_take]
    omega
  have hrun := va_runS (rest := stk adr (st.drop n)) (g := F0 m pc lsA (stk adr st)) (locs := locs) (cells := cells) (slots := slots) (p := p) (e := e) (below := below) (meth := meth) ⟨hx, hb, hml, hown, hts⟩ hM (va_cwS n hts (own := (mY mi).cls) (index := idx) (fun w hw9 => by
        rcases List.mem_append.mp hw9 with hw9 | hw9
        · refine gw_good (ws := [.methodLink (mY mi).cls idx (mY m'), .static (mY m'), .initialized (mY m').cls]) (fun w hw8 => ?_) w hw9
          simp only [List.mem_cons, List.not_mem_nil, or_false] at hw8
          rcases hw8 with rfl | rfl | rfl <;> assumption
        · refine gw_good (ws := mW m') (fun w hw8 => ?_) w hw9
          rcases List.mem_cons.mp hw8 with rfl | hw7
          · exact hw5
          · exact hw7) rfl rfl rfl hy ⟨Nat.le_trans hfm hfr, Nat.le_trans hlm hlo⟩) ⟨Ok_blind, fun U hU hW => ⟨rfl, by rw [hU]; exact hl.2.2.1, va_K.moved hW.alike hKK, va_Nw.warmM hW hnw⟩⟩ rfl hasz hl.1.1 (stk_splitS adr st n) (lv_room (by omega)) hd ⟨hce, hsl⟩
  refine am_after hrun hl.2.2.2.1 (AP_sub hA0) (fun H1 locs1 hP hS => ?_)
  have k0 := hK _ _ _ _ e2 (low_d hw) _ _ _ (hl.call hi hP hS)
  rw [hrk]
  exact k0
theorem ss_ncallV {mi pc idx m' n : Nat} {host : String} (hd : decode (mB mi) pc = .ok (.invokestatic idx, 3)) (hw1 : nestW = Cond.methodLinkNest (mY mi).cls idx (mY m') host) (hw2 : Cond.static (mY m') ∈ gwl) (hw4 : Cond.initialized (mY m').cls ∈ gwl) (hw5 : Cond.code (mY m') (mB m') (nlm m') (mRet m') ∈ gwl) (hy : (mY m').cls ≠ "java/lang/invoke/MethodHandle" ∧ (mY m').cls ≠ "java/lang/invoke/VarHandle" ∧ (parseMethodDescriptor (mY m').desc).map (fun d => d.parameters.length) = some n) (hrk : mRk m' = 0) (hfm : mFr m' + 1 ≤ mFr mi) (hlm : 8 + (nlm m' + 11) + mLo m' ≤ mLo mi) (hnl : n ≤ nlm m') : SS mi pc (s_scallV m' n) := by
  intro N p l e R s m args below meth c Q cells slots adr D cI cC cG A0 H0 σ0 C K r F hZ hC hK hR ls st σ lsA H locs h hw hl
  obtain ⟨hx, hb, hml, hown, hts, hKK, hfr, hlo, hce, hsl, hnw, hinj, hA0, hcl0, hN40⟩ := id F
  unfold s_scallV at h
  by_cases c1 : (st.drop n).length ≤ 4 ∧ n ≤ st.length ∧ (st.take n).all gA = true
  case neg => rw [if_neg c1] at h; cases h
  rw [if_pos c1] at h
  obtain ⟨v, σ1, e1, e2⟩ := kcV_some h
  obtain ⟨hM, hi⟩ := hC _ _ _ _ e1 hfm (by rw [List.all_reverse]; exact c1.2.2) (by rw [List.length_reverse, List.length_take]; omega) (low_r hw)
  have hc := stk_cat adr (st.drop n)
  have hasz : (stk adr (st.take n).reverse).length = n := by
    unfold stk
    rw [List.length_map, List.length_reverse, List.length_take]
    omega
  have hrun := va_runSN (host := host) (rest := stk adr (st.drop n)) (g := F0 m pc lsA (stk adr st)) (locs := locs) (cells := cells) (slots := slots) (p := p) (e := e) (below := below) (meth := meth) ⟨hx, hb, hml, hown, hts⟩ hM ⟨va_cnB n hts (own := (mY mi).cls) (index := idx) (fun w hw9 => by
        refine gw_good (ws := mW m') (fun w hw8 => ?_) w hw9
        rcases List.mem_cons.mp hw8 with rfl | hw7
        · exact hw5
        · exact hw7) rfl rfl rfl (by rw [← hw1]; exact hnw) (hts _ hw4) hy ⟨Nat.le_trans hfm hfr, Nat.le_trans hlm hlo⟩, hts _ hw2, trivial⟩ ⟨Ok_blind, fun U hU hW => ⟨rfl, by rw [hU]; exact hl.2.2.1, va_K.moved hW.alike hKK, va_Nw.warmM hW hnw⟩⟩ rfl hasz hl.1.1 (stk_splitS adr st n) (lv_room (by omega)) hd ⟨hce, hsl⟩
  refine am_after hrun hl.2.2.2.1 (AP_sub hA0) (fun H1 locs1 hP hS => ?_)
  have k0 := hK _ _ _ _ e2 (low_d hw) _ _ _ (hl.call hi hP hS)
  rw [hrk]
  exact k0
/-- all steps of a list are owed from a place on -/
def AllS (mi : Nat) : Nat → List Step → Prop
  | _, [] => True
  | i, f :: r => SS mi i f ∧ AllS mi (i + 1) r
theorem AllS.at {mi : Nat} : ∀ {o : Nat} {l : List Step} {i : Nat} {f : Step}, AllS mi o l → l[i]? = some f → SS mi (o + i) f
  | _, [], _, _, _, h => by simp at h
  | o, g :: r, 0, f, ha, h => by
    cases h
    exact ha.1
  | o, g :: r, i + 1, f, ha, h => by
    have := ha.2.at (i := i) (f := f) h
    rw [show o + (i + 1) = o + 1 + i by omega]
    exact this
/-- a stretch of a method -/
theorem am_body (N : Nat) (mi : Nat) (hSS : ∀ pc f, (cdm mi)[pc]? = some f → SS mi pc f) (p : Program) (l : Launch) (e : Env) (R : Room) (s : State) (m : MethodId) (args : Array Value) (below : List Frame) (meth : Method) (c : Code) (Q : State → Prop) (cells slots : Nat) (adr : Nat → Nat) (D : va_G) (cI cC cG : ClassId) (A0 : Nat → Prop) (H0 : Heap) (σ0 : Sg) (r : AV × Sg) (F : Fx N mi p R s m args c cells slots adr D cI cC cG A0) (hZ : mi = lawN → Scr adr s A0 H0 σ0)
    (hC : ∀ m' as σ' q, Cal m' as σ' = some q → mFr m' + 1 ≤ mFr mi → as.all gA = true → as.length ≤ nlm m' → low N as → Ok N l adr D cI cC cG m' as σ' q)
    (hR : ∀ pc' lsA' H' locs' st', va_P D vwCl (cs N adr cI cC cG r.2) H' → va_S A0 H0 H' locs' → (∀ q j, nP ≤ q → r.2 q j = σ0 q j) → RetAt mi pc' r.1 adr st' → W p l e R s m args below meth c H' locs' cells slots Q (F0 m pc' lsA' st')) :
    ∀ n pc ls st σ lsA H locs, arun cdm nlm n mi pc ls st σ = some r → low N st → Rl N mi adr D cI cC cG A0 H0 σ0 σ ls lsA H locs → W p l e R s m args below meth c H locs cells slots Q (F0 m pc lsA (stk adr st))
  | 0, _, _, _, _, _, _, _ => fun h _ _ => by cases h
  | n + 1, pc, ls, st, σ, lsA, H, locs => fun h hw hl => by
    unfold arun at h
    cases hc : (cdm mi)[pc]? with
    | none => rw [hc] at h; cases h
    | some f =>
      rw [hc] at h
      exact hSS pc f hc N p l e R s m args below meth c Q cells slots adr D cI cC cG A0 H0 σ0 _ _ r F hZ (fun m' as σ' q hq hf h1 h2 h3 => hC m' as σ' q ((RunF_iff (hF := hF)).mpr ⟨n, hq⟩) hf h1 h2 h3) (fun pc' ls' st' σ' hk hw' lsA' H' locs' hl' => am_body N mi hSS p l e R s m args below meth c Q cells slots adr D cI cC cG A0 H0 σ0 r F hZ hC hR n pc' ls' st' σ' lsA' H' locs' hk hw' hl') hR ls st σ lsA H locs h hw hl
theorem lmap_ent (adr : Nat → Nat) : ∀ (as : List AV) (o k : Nat), (∀ v ∈ as, ∀ x, v ≠ vL x) → (∀ v ∈ as, v ≠ vJ) → lmap adr o (as ++ List.replicate k vJ) = lv_args o (stk adr as)
  | [], o, k, _, _ => by
    show lmap adr o (List.replicate k vJ) = []
    induction k generalizing o with
    | zero => rfl
    | succ k ih => exact ih (o + 1)
  | v :: as, o, k, h1, h2 => by
    have ih := lmap_ent adr as (o + 1) k (fun w hw => h1 w (List.mem_cons_of_mem _ hw)) (fun w hw => h2 w (List.mem_cons_of_mem _ hw))
    rcases v with x | x | x | x
    · exact congrArg (List.cons _) ih
    · exact congrArg (List.cons _) ih
    · exact absurd rfl (h1 _ List.mem_cons_self x)
    · exact absurd rfl (h2 _ List.mem_cons_self)
theorem lg_len (adr : Nat → Nat) : ∀ (as : List AV), (∀ v ∈ as, ∀ x, v ≠ vL x) → (lg_sl (stk adr as)).length = as.length
  | [], _ => rfl
  | v :: as, h => by
    have ih := lg_len adr as (fun w hw => h w (List.mem_cons_of_mem _ hw))
    have e : lg_sl (stk adr (v :: as)) = (if (cvD adr v).category = 2 then [Slot.val (cvD adr v), .second] else [.val (cvD adr v)]) ++ lg_sl (stk adr as) := rfl
    rw [e, List.length_append, ih]
    have h2 : ¬ (cvD adr v).category = 2 := by
      rcases v with x | x | x | x
      · intro q; cases q
      · intro q; cases q
      · exact absurd rfl (h _ List.mem_cons_self x)
      · intro q; cases q
    rw [if_neg h2]
    show 1 + as.length = as.length + 1
    omega
theorem gA_no {as : List AV} (h : as.all gA = true) : (∀ v ∈ as, ∀ x, v ≠ vL x) ∧ (∀ v ∈ as, v ≠ vJ) := by
  have h1 := List.all_eq_true.mp h
  refine ⟨fun v hv x e => ?_, fun v hv e => ?_⟩
  · have := h1 v hv
    rw [e] at this
    cases this
  · have := h1 v hv
    rw [e] at this
    cases this
/-- THE THEOREM: what the abstract machine answers, the method does -/
theorem am_ok (N : Nat) (hcl0 : ∀ i k, i < N → lk i k < N) (hN40 : 40 ≤ N) (l : Launch) (adr : Nat → Nat) (D : va_G) (cI cC cG : ClassId) (hi : ∀ i j, i < N → j < N → adr i = adr j → i = j) (good : Nat → Prop) (hSS : ∀ mi, good mi → ∀ pc f, (cdm mi)[pc]? = some f → SS mi pc f) (hcl : ∀ mi m', good mi → mFr m' + 1 ≤ mFr mi → good m')
    (hpl : ∀ mi, good mi → plainName (mY mi).cls = true) (hnl : ∀ mi, good mi → mi ≠ lawN) :
    ∀ (k mi : Nat), mFr mi < k → good mi → ∀ (as : List AV) (σ : Sg) (r : AV × Sg), Cal mi as σ = some r → as.all gA = true → as.length ≤ nlm mi → low N as → Ok N l adr D cI cC cG mi as σ r
  | 0, mi, h, _ => by omega
  | k + 1, mi, h, hg => by
    intro as σ r hr hA hn hlow
    obtain ⟨n, hn2⟩ := (RunF_iff (hF := hF)).mp hr
    have hA2 := gA_no hA
    have hent : ∀ p s (m : MethodId) args below meth c s₁ e, BodyLoose p l (mY mi) (headSpec (mW mi) (mRm mi)) (mB mi) (nlm mi) (mRet mi) e s m args below meth c s₁ → c.maxLocals = nlm mi → va_Pc (stk adr as) (fun U => va_P D vwCl (cs N adr cI cC cG σ) U.heap ∧ va_K D vwCl (tys3 cI cC cG) U ∧ va_Nw nestW U) args s →
        ∀ Q : State → Prop, (∀ pc' lsA' H' locs' st', va_P D vwCl (cs N adr cI cC cG r.2) H' → va_S (AP N adr) s.heap H' locs' → (∀ q j, nP ≤ q → r.2 q j = σ q j) → RetAt mi pc' r.1 adr st' → W p l e (mRm mi) s m args below meth c H' locs' 0 0 Q (F0 m pc' lsA' st')) → W p l e (mRm mi) s m args below meth c s.heap [] 0 0 Q (entryFrame m args (nlm mi)) := by
      intro p s m args below meth c s₁ e B hml hv Q hR
      obtain ⟨rfl, hP, hK, hnw⟩ := hv
      have hts := atoms_spec (ws := mW mi) B.pre
      have F : Fx N mi p (mRm mi) s m (stk adr as).toArray c 0 0 adr D cI cC cG (AP N adr) := ⟨B.exec, B.bytes, hml, findClass_of_methodNamed B.named, fun w hw => hts w (List.mem_cons_of_mem _ hw), hK, Nat.le_refl _, Nat.le_refl _, Nat.le_refl _, Nat.le_refl _, hnw, hi, fun i hi => ⟨i, hi, rfl⟩, hcl0, hN40⟩
      have hl := lv_entry (stk adr as) (n := nlm mi) (by rw [lg_len adr as hA2.1]; exact hn)
      rw [lg_entry_eq]
      refine am_body N mi (hSS mi hg) p l e (mRm mi) s m _ below meth c Q 0 0 adr D cI cC cG (AP N adr) s.heap σ r F (fun z => absurd z (hnl mi hg)) (fun m' as' σ' q hq hf h1 h2 h3 => am_ok N hcl0 hN40 l adr D cI cC cG hi good hSS hcl hpl hnl k m' (by omega) (hcl mi m' hg hf) as' σ' q hq h1 h2 h3) hR n 0 (ent (nlm mi) as) [] σ _ s.heap [] hn2 (fun _ z => absurd z List.not_mem_nil) ?_
      refine ⟨?_, ?_, hP, va_S.rf, fun _ _ _ => rfl, ?_⟩
      · unfold ent
        rw [lmap_ent adr as 0 _ hA2.1 hA2.2]
        exact hl
      · intro j x hj
        exfalso
        unfold ent at hj
        have hm := List.mem_of_getElem? hj
        rcases List.mem_append.mp hm with q | q
        · exact hA2.1 _ q x rfl
        · have := List.eq_of_mem_replicate q
          cases this
      · intro v hv
        unfold ent at hv
        rcases List.mem_append.mp hv with q | q
        · exact hlow v q
        · rw [List.eq_of_mem_replicate q]; trivial
    refine ⟨Met.ofW (cc := mB mi) (maxL := nlm mi) (ret := mRet mi) (hpl mi hg) rfl ?_, ?_⟩
    · intro p e s m args below meth c s₁ B hml hv
      refine hent p s m args below meth c s₁ e B hml hv _ ?_
      intro pc' lsA' H' locs' st' hP' hS' _ hra
      have hlocks := B.notSynchronized
      have hret := B.returns
      rcases hra with ⟨h1, h2, h3, rfl⟩ | ⟨x, ty, h1, h2, h3, h4, h5, rfl⟩ | ⟨q, C, h1, h2, h3, h4, rfl⟩
      · refine W.vret B.exec B.bytes (hret.trans h2) (fun t ht _ => ⟨by rw [if_pos h1], by rw [ht]; exact hP', hS'.F ht⟩) hS'.2.2 h3
      · refine W.zret B.exec B.bytes (hret.trans h3) h4 (fun t ht _ => ⟨by rw [if_neg (by omega), h2]; rfl, by rw [ht]; exact hP', hS'.F ht⟩) hS'.2.2 h5
      · refine W.aret B.exec B.bytes (hret.trans h3) (Or.inl ⟨C, rfl⟩) (Or.inr ⟨_, rfl⟩) (fun t ht _ => ⟨by rw [if_neg (by omega), h2]; rfl, by rw [ht]; exact hP', hS'.F ht⟩) hS'.2.2 h4
    · exact arun_hi hF _ _ _ _ _ _ _ hn2
theorem ss_slen {pc : Nat} (hd : decode (mB lawN) pc = .ok (.arraylength, 1)) : SS lawN pc s_slen := by
  intro N p l e R s m args below meth c Q cells slots adr D cI cC cG A0 H0 σ0 C K r F hZ hC hK hR ls st σ lsA H locs h hw hl
  obtain ⟨hx, hb, hml, hown, hts, hKK, hfr, hlo, hce, hsl, hnw, hinj, hA0, hcl0, hN40⟩ := id F
  rcases st with _ | ⟨x0 | x0 | x0 | x0, st⟩
  all_goals first | (cases h; done) | skip
  have h : (if x0 = 99 then K (pc + 1) ls (vI (σ 98 0) :: st) σ else none) = some r := h
  by_cases c0 : x0 = 99
  case neg => rw [if_neg c0] at h; cases h
  rw [if_pos c0] at h
  subst c0
  obtain ⟨L, xs, hX, hbl, hbA, hL, hxs⟩ := hZ rfl
  have k0 := hK _ _ _ _ h (low_i (low_t hw)) _ _ _ hl
  have e0 : σ 98 0 = (L : Int) := (hl.2.2.2.2.1 98 0 (by decide)).trans hL
  refine va_slen hx hb hX hbl hbA hl.2.2.2.1 hd ?_
  rw [show Int32.ofNat L = Int32.ofInt (σ 98 0) by rw [e0]; rfl]
  exact k0
theorem ss_sald {pc : Nat} (hd : decode (mB lawN) pc = .ok (.iaload, 1)) : SS lawN pc s_sald := by
  intro N p l e R s m args below meth c Q cells slots adr D cI cC cG A0 H0 σ0 C K r F hZ hC hK hR ls st σ lsA H locs h hw hl
  obtain ⟨hx, hb, hml, hown, hts, hKK, hfr, hlo, hce, hsl, hnw, hinj, hA0, hcl0, hN40⟩ := id F
  rcases st with _ | ⟨x0 | x0 | x0 | x0, _ | ⟨x1 | x1 | x1 | x1, st⟩⟩
  all_goals first | (cases h; done) | skip
  have h9 : (if x1 = 99 then (if 0 ≤ wr x0 ∧ wr x0 < σ 98 0 then K (pc + 1) ls (vI (σ 99 (wr x0).toNat) :: st) σ else none) else none) = some r := h
  by_cases c0 : x1 = 99
  case neg => rw [if_neg c0] at h9; cases h9
  rw [if_pos c0] at h9
  by_cases c1 : 0 ≤ wr x0 ∧ wr x0 < σ 98 0
  case neg => rw [if_neg c1] at h9; cases h9
  rw [if_pos c1] at h9
  subst c0
  obtain ⟨L, xs, hX, hbl, hbA, hL, hxs⟩ := hZ rfl
  have k0 := hK _ _ _ _ h9 (low_i (low_t (low_t hw))) _ _ _ hl
  have e0 : σ 98 0 = (L : Int) := (hl.2.2.2.2.1 98 0 (by decide)).trans hL
  rw [e0] at c1
  refine va_sld hx hb hX hbl hbA hl.2.2.2.1 (w_in c1) hd ?_
  rw [w_cl c1.1, ← hxs _ (by omega), ← hl.2.2.2.2.1 99 _ (by decide)]
  exact k0
end
