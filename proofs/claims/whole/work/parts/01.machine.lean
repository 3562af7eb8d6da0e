/-! AN ABSTRACT MACHINE: cells by place, ints as integers read modulo 2^32; a step of the code is a function -/
abbrev Sg : Type := Nat → Nat → Int
abbrev AV : Type := Int ⊕ (Nat ⊕ (Int ⊕ Unit))
abbrev Res : Type := Option (AV × Sg)
abbrev vI (x : Int) : AV := .inl x
abbrev vR (p : Nat) : AV := .inr (.inl p)
abbrev vL (x : Int) : AV := .inr (.inr (.inl x))
abbrev vJ : AV := .inr (.inr (.inr ()))
abbrev Cl : Type := Nat → List AV → Sg → Res
abbrev Kn : Type := Nat → List AV → List AV → Sg → Res
abbrev Step : Type := Cl → Kn → Nat → List AV → List AV → Sg → Res
def wr (x : Int) : Int := (Int32.ofInt x).toInt
def wl (x : Int) : Int := (Int64.ofInt x).toInt
def up (σ : Sg) (p i : Nat) (x : Int) : Sg := fun q j => if q = p ∧ j = i then x else σ q j
def cpy (σ : Sg) (p sp q dp n : Nat) : Sg := fun a j => if a = q ∧ dp ≤ j ∧ j < dp + n then σ p (sp + (j - dp)) else σ a j
def ban (x y : Int) : Int := (Int32.ofInt x &&& Int32.ofInt y).toInt
def bor (x y : Int) : Int := (Int32.ofInt x ||| Int32.ofInt y).toInt
def bxo (x y : Int) : Int := (Int32.ofInt x ^^^ Int32.ofInt y).toInt
def bsl (x y : Int) : Int := (Int32.ofInt x <<< (Int32.ofInt y &&& 31)).toInt
def bsr (x y : Int) : Int := (Int32.ofInt x >>> (Int32.ofInt y &&& 31)).toInt
def bus (x y : Int) : Int := (((Int32.ofInt x).toUInt32 >>> ((Int32.ofInt y).toUInt32 &&& Int32.toUInt32 31)).toInt32).toInt
def idv (x y : Int) : Int := (Int32.ofInt x / Int32.ofInt y).toInt
def irm (x y : Int) : Int := (Int32.ofInt x - Int32.ofInt x / Int32.ofInt y * Int32.ofInt y).toInt
def ldv (x y : Int) : Int := (Int64.ofInt x / Int64.ofInt y).toInt
def lrm (x y : Int) : Int := (Int64.ofInt x - Int64.ofInt x / Int64.ofInt y * Int64.ofInt y).toInt
-- THE LAYOUT: kd: 0..5 an object of that number, 10 ints, 11 chars, 12 rows of ints; 97 the text, 98: the script's length, 99: the script
-- 0:oboe 1:oboe.sitting 2:oboe.trial 3:oboe.latest 4:oboe.heardWho 5:oboe.heardBar 6:oboe.heardPlayed 7:oboe.keptSitting 8:oboe.keptSitting[0] 9:oboe.keptSitting[1] 10:oboe.keptBribed 11:oboe.reader 12:oboe.reader.letters 13:oboe.reader.numbers 14:oboe.reader.draft 15:oboe.reader.draft.kind 16:oboe.reader.draft.minds 17:oboe.reader.draft.price 18:oboe.reader.draft.asks 19:oboe.reader.draft.toldToSit 20:oboe.band 21:oboe.band.kind 22:oboe.band.minds 23:oboe.band.price 24:oboe.band.asks 25:oboe.band.toldToSit 26:oboe.now 27:oboe.now.beside 28:oboe.now.played 29:oboe.survey 30:oboe.survey.bestSitting 31:oboe.survey.seatingsBySounded 32:oboe.survey.trial 33:oboe.survey.seatNow 34:oboe.survey.there 35:oboe.survey.there.beside 36:oboe.survey.there.played 37:oboe.other 38:oboe.other.beside 39:oboe.other.played 40:model 41:model.text 42:model.told 43:model.draft 44:model.s 45:model.past 46:model.images 47:model.heard 48:model.sat 49:model.beside 50:model.kinds 51:model.played 52:model.heardNow
def kdL : List Nat := [4, 10, 10, 10, 10, 10, 10, 12, 10, 10, 10, 2, 11, 10, 0, 10, 10, 10, 10, 10, 0, 10, 10, 10, 10, 10, 1, 10, 10, 3, 10, 10, 10, 10, 1, 10, 10, 1, 10, 10, 5, 10, 10, 10, 10, 10, 10, 10, 10, 10, 10, 10, 10]
def lnL : List Nat := [17, 7, 7, 8, 8, 8, 8, 2, 7, 7, 2, 4, 200, 3, 9, 7, 7, 7, 8, 7, 9, 7, 7, 7, 8, 7, 4, 7, 8, 11, 7, 57, 7, 7, 4, 7, 8, 4, 7, 8, 21, 200, 40, 40, 8, 64, 16, 8, 7, 7, 7, 8, 8]
def kd (p : Nat) : Nat := kdL.getD p 99
def ln (p : Nat) : Nat := lnL.getD p 0
def nP : Nat := 53
/-- where the reference fields of a cell lead -/
def lkL : List (List Nat) := [[11, 20, 1, 0, 26, 29, 2, 37, 3, 0, 4, 5, 6, 0, 7, 10, 0], [], [], [], [], [], [], [8, 9], [], [], [], [14, 0, 12, 13], [], [], [15, 16, 17, 0, 18, 0, 19, 0, 0], [], [], [], [], [], [21, 22, 23, 0, 24, 0, 25, 0, 0], [], [], [], [], [], [27, 28, 0, 0], [], [], [0, 0, 0, 0, 0, 0, 30, 31, 32, 33, 34], [], [], [], [], [35, 36, 0, 0], [], [], [38, 39, 0, 0], [], [], [41, 0, 42, 43, 44, 45, 0, 46, 0, 47, 0, 0, 48, 49, 50, 51, 0, 0, 0, 0, 52], [], [], [], [], [], [], [], [], [], [], [], []]
def lk (p k : Nat) : Nat := (lkL.getD p []).getD k 0
def strL : List Int := [105, 48, 44, 48, 44, 50, 59, 105, 49, 44, 50, 44, 53, 59, 105, 50, 44, 48, 44, 51, 59, 105, 51, 44, 51, 44, 52, 59, 105, 49, 44, 48, 44, 54, 59, 98, 49, 53, 44, 49, 59, 98, 53, 44, 49, 59, 98, 49, 52, 44, 48, 59, 98, 49, 49, 44, 49, 59, 115, 50, 59, 115, 48, 59, 103, 50, 59]
def s_ldstr : Step := fun _ K pc ls st σ => K (pc + 2) ls (vR 97 :: st) σ
def s_strlen : Step := fun _ K pc ls st σ => match st with
  | .inr (.inl p) :: st' => if p = 97 then K (pc + 3) ls (vI 67 :: st') σ else none
  | _ => none
def s_strch : Step := fun _ K pc ls st σ => match st with
  | .inl i :: .inr (.inl p) :: st' => if p = 97 then (if 0 ≤ wr i ∧ wr i < 67 then K (pc + 3) ls (vI (strL.getD (wr i).toNat 0) :: st') σ else none) else none
  | _ => none
-- STEPS
def s_push (a : Int) (n : Nat) : Step := fun _ K pc ls st σ => K (pc + n) ls (vI a :: st) σ
def s_iload (k n : Nat) : Step := fun _ K pc ls st σ => match ls[k]? with
  | some (.inl x) => K (pc + n) ls (vI x :: st) σ
  | _ => none
def s_aload (k n : Nat) : Step := fun _ K pc ls st σ => match ls[k]? with
  | some (.inr (.inl x)) => K (pc + n) ls (vR x :: st) σ
  | _ => none
def s_lload (k n : Nat) : Step := fun _ K pc ls st σ => match ls[k]? with
  | some (.inr (.inr (.inl x))) => K (pc + n) ls (vL x :: st) σ
  | _ => none
def s_istore (k n : Nat) : Step := fun _ K pc ls st σ => match st with
  | .inl x :: st' => K (pc + n) (ls.set k (vI x)) st' σ
  | _ => none
def s_astore (k n : Nat) : Step := fun _ K pc ls st σ => match st with
  | .inr (.inl x) :: st' => K (pc + n) (ls.set k (vR x)) st' σ
  | _ => none
def s_lstore (k n : Nat) : Step := fun _ K pc ls st σ => match st with
  | .inr (.inr (.inl x)) :: st' => K (pc + n) ((ls.set k (vL x)).set (k + 1) vJ) st' σ
  | _ => none
def s_iinc (k : Nat) (a : Int) : Step := fun _ K pc ls st σ => match ls[k]? with
  | some (.inl x) => K (pc + 3) (ls.set k (vI (x + a))) st σ
  | _ => none
def s_bin (f : Int → Int → Int) : Step := fun _ K pc ls st σ => match st with
  | .inl y :: .inl x :: st' => K (pc + 1) ls (vI (f x y) :: st') σ
  | _ => none
def s_dvd (f : Int → Int → Int) : Step := fun _ K pc ls st σ => match st with
  | .inl y :: .inl x :: st' => if wr y = 0 then none else K (pc + 1) ls (vI (f x y) :: st') σ
  | _ => none
def s_getI (c k : Nat) : Step := fun _ K pc ls st σ => match st with
  | .inr (.inl p) :: st' => if kd p = c then K (pc + 3) ls (vI (σ p k) :: st') σ else none
  | _ => none
def s_getR (c k : Nat) : Step := fun _ K pc ls st σ => match st with
  | .inr (.inl p) :: st' => if kd p = c then K (pc + 3) ls (vR (lk p k) :: st') σ else none
  | _ => none
def s_putI (c k : Nat) : Step := fun _ K pc ls st σ => match st with
  | .inl x :: .inr (.inl p) :: st' => if kd p = c then K (pc + 3) ls st' (up σ p k x) else none
  | _ => none
def s_putZ (c k : Nat) : Step := fun _ K pc ls st σ => match st with
  | .inl x :: .inr (.inl p) :: st' => if kd p = c then (if x = 0 ∨ x = 1 then K (pc + 3) ls st' (up σ p k x) else none) else none
  | _ => none
def s_iald : Step := fun _ K pc ls st σ => match st with
  | .inl i :: .inr (.inl p) :: st' => if kd p = 10 then (if 0 ≤ wr i ∧ wr i < ln p then K (pc + 1) ls (vI (σ p (wr i).toNat) :: st') σ else none) else none
  | _ => none
def s_cald : Step := fun _ K pc ls st σ => match st with
  | .inl i :: .inr (.inl p) :: st' => if kd p = 11 then (if 0 ≤ wr i ∧ wr i < ln p then K (pc + 1) ls (vI (σ p (wr i).toNat) :: st') σ else none) else none
  | _ => none
def s_aald : Step := fun _ K pc ls st σ => match st with
  | .inl i :: .inr (.inl p) :: st' => if kd p = 12 then (if 0 ≤ wr i ∧ wr i < ln p then K (pc + 1) ls (vR (lk p (wr i).toNat) :: st') σ else none) else none
  | _ => none
def s_iast : Step := fun _ K pc ls st σ => match st with
  | .inl x :: .inl i :: .inr (.inl p) :: st' => if kd p = 10 then (if 0 ≤ wr i ∧ wr i < ln p then K (pc + 1) ls st' (up σ p (wr i).toNat x) else none) else none
  | _ => none
def s_cast : Step := fun _ K pc ls st σ => match st with
  | .inl x :: .inl i :: .inr (.inl p) :: st' => if kd p = 11 then (if (0 ≤ wr i ∧ wr i < ln p) ∧ 0 ≤ x ∧ x < 65536 then K (pc + 1) ls st' (up σ p (wr i).toNat x) else none) else none
  | _ => none
def s_alen : Step := fun _ K pc ls st σ => match st with
  | .inr (.inl p) :: st' => if 10 ≤ kd p ∧ kd p < 13 then K (pc + 1) ls (vI (ln p) :: st') σ else none
  | _ => none
def s_slen : Step := fun _ K pc ls st σ => match st with
  | .inr (.inl p) :: st' => if p = 99 then K (pc + 1) ls (vI (σ 98 0) :: st') σ else none
  | _ => none
def s_sald : Step := fun _ K pc ls st σ => match st with
  | .inl i :: .inr (.inl p) :: st' => if p = 99 then (if 0 ≤ wr i ∧ wr i < σ 98 0 then K (pc + 1) ls (vI (σ 99 (wr i).toNat) :: st') σ else none) else none
  | _ => none
def s_ifeq (t : Nat) : Step := fun _ K pc ls st σ => match st with
  | .inl x :: st' => if wr x = 0 then K t ls st' σ else K (pc + 3) ls st' σ
  | _ => none
def s_ifne (t : Nat) : Step := fun _ K pc ls st σ => match st with
  | .inl x :: st' => if wr x = 0 then K (pc + 3) ls st' σ else K t ls st' σ
  | _ => none
def s_iflt (t : Nat) : Step := fun _ K pc ls st σ => match st with
  | .inl x :: st' => if wr x < 0 then K t ls st' σ else K (pc + 3) ls st' σ
  | _ => none
def s_ifge (t : Nat) : Step := fun _ K pc ls st σ => match st with
  | .inl x :: st' => if wr x < 0 then K (pc + 3) ls st' σ else K t ls st' σ
  | _ => none
def s_ifgt (t : Nat) : Step := fun _ K pc ls st σ => match st with
  | .inl x :: st' => if 0 < wr x then K t ls st' σ else K (pc + 3) ls st' σ
  | _ => none
def s_ifle (t : Nat) : Step := fun _ K pc ls st σ => match st with
  | .inl x :: st' => if 0 < wr x then K (pc + 3) ls st' σ else K t ls st' σ
  | _ => none
def s_iceq (t : Nat) : Step := fun _ K pc ls st σ => match st with
  | .inl y :: .inl x :: st' => if wr x = wr y then K t ls st' σ else K (pc + 3) ls st' σ
  | _ => none
def s_icne (t : Nat) : Step := fun _ K pc ls st σ => match st with
  | .inl y :: .inl x :: st' => if wr x = wr y then K (pc + 3) ls st' σ else K t ls st' σ
  | _ => none
def s_iclt (t : Nat) : Step := fun _ K pc ls st σ => match st with
  | .inl y :: .inl x :: st' => if wr x < wr y then K t ls st' σ else K (pc + 3) ls st' σ
  | _ => none
def s_icge (t : Nat) : Step := fun _ K pc ls st σ => match st with
  | .inl y :: .inl x :: st' => if wr x < wr y then K (pc + 3) ls st' σ else K t ls st' σ
  | _ => none
def s_icgt (t : Nat) : Step := fun _ K pc ls st σ => match st with
  | .inl y :: .inl x :: st' => if wr y < wr x then K t ls st' σ else K (pc + 3) ls st' σ
  | _ => none
def s_icle (t : Nat) : Step := fun _ K pc ls st σ => match st with
  | .inl y :: .inl x :: st' => if wr y < wr x then K (pc + 3) ls st' σ else K t ls st' σ
  | _ => none
def s_goto (t : Nat) : Step := fun _ K _ ls st σ => K t ls st σ
def s_dup : Step := fun _ K pc ls st σ => match st with
  | .inl x :: st' => K (pc + 1) ls (vI x :: vI x :: st') σ
  | .inr (.inl x) :: st' => K (pc + 1) ls (vR x :: vR x :: st') σ
  | _ => none
def s_dup2 : Step := fun _ K pc ls st σ => match st with
  | .inl i :: .inr (.inl p) :: st' => K (pc + 1) ls (vI i :: vR p :: vI i :: vR p :: st') σ
  | _ => none
def s_pop : Step := fun _ K pc ls st σ => match st with
  | .inl _ :: st' => K (pc + 1) ls st' σ
  | _ => none
def swk (K : Nat → Res) (d : Nat) (x : Int) : List (Int × Nat) → Res
  | [] => K d
  | q :: r => if x = q.1 then K q.2 else swk K d x r
def s_switch (tb : List (Int × Nat)) (d : Nat) : Step := fun _ K _ ls st σ => match st with
  | .inl x :: st' => swk (fun t => K t ls st' σ) d (wr x) tb
  | _ => none
def kcI (r : Res) (k : Int → Sg → Res) : Res := match r with
  | some (.inl x, s) => k x s
  | _ => none
def kcR (p0 : Nat) (r : Res) (k : Sg → Res) : Res := match r with
  | some (.inr (.inl x), s) => if x = p0 then k s else none
  | _ => none
def kcV (r : Res) (k : Sg → Res) : Res := match r with
  | some (_, s) => k s
  | _ => none
/-- an int or a reference -/
def gA : AV → Bool
  | .inl _ => true
  | .inr (.inl _) => true
  | _ => false
def s_scallI (m n : Nat) : Step := fun C K pc ls st σ => if (st.drop n).length ≤ 4 ∧ n ≤ st.length ∧ (st.take n).all gA = true then kcI (C m (st.take n).reverse σ) (fun x σ' => K (pc + 3) ls (vI x :: st.drop n) σ') else none
/-- the answer is the cell p0 -/
def s_scallR (p0 m n : Nat) : Step := fun C K pc ls st σ => if (st.drop n).length ≤ 4 ∧ n ≤ st.length ∧ (st.take n).all gA = true then kcR p0 (C m (st.take n).reverse σ) (fun σ' => K (pc + 3) ls (vR p0 :: st.drop n) σ') else none
def s_scallV (m n : Nat) : Step := fun C K pc ls st σ => if (st.drop n).length ≤ 4 ∧ n ≤ st.length ∧ (st.take n).all gA = true then kcV (C m (st.take n).reverse σ) (fun σ' => K (pc + 3) ls (st.drop n) σ') else none
/-- a call on an object: n arguments above it -/
def s_call (c n : Nat) (f : Step) : Step := fun C K pc ls st σ => match st[n]? with
  | some (.inr (.inl p)) => if kd p = c then f C K pc ls st σ else none
  | _ => none
def s_iret : Step := fun _ _ _ _ st σ => match st with
  | [.inl x] => some (vI x, σ)
  | _ => none
def s_zret : Step := fun _ _ _ _ st σ => match st with
  | [.inl x] => if x = 0 ∨ x = 1 then some (vI x, σ) else none
  | _ => none
def s_cret : Step := fun _ _ _ _ st σ => match st with
  | [.inl x] => if 0 ≤ x ∧ x < 65536 then some (vI x, σ) else none
  | _ => none
def s_aret : Step := fun _ _ _ _ st σ => match st with
  | [.inr (.inl p)] => some (vR p, σ)
  | _ => none
def s_vret : Step := fun _ _ _ _ st σ => match st with
  | [] => some (vI 0, σ)
  | _ => none
def s_lpush (a : Int) (n : Nat) : Step := fun _ K pc ls st σ => K (pc + n) ls (vL a :: st) σ
def s_lbin (f : Int → Int → Int) : Step := fun _ K pc ls st σ => match st with
  | .inr (.inr (.inl y)) :: .inr (.inr (.inl x)) :: st' => K (pc + 1) ls (vL (f x y) :: st') σ
  | _ => none
def s_ldvd (f : Int → Int → Int) : Step := fun _ K pc ls st σ => match st with
  | .inr (.inr (.inl y)) :: .inr (.inr (.inl x)) :: st' => if wl y = 0 then none else K (pc + 1) ls (vL (f x y) :: st') σ
  | _ => none
def s_i2l : Step := fun _ K pc ls st σ => match st with
  | .inl x :: st' => K (pc + 1) ls (vL (wr x) :: st') σ
  | _ => none
def s_l2i : Step := fun _ K pc ls st σ => match st with
  | .inr (.inr (.inl x)) :: st' => K (pc + 1) ls (vI x :: st') σ
  | _ => none
def s_i2c : Step := fun _ K pc ls st σ => match st with
  | .inl x :: st' => K (pc + 1) ls (vI (x % 65536) :: st') σ
  | _ => none
def s_copy : Step := fun _ K pc ls st σ => match st with
  | .inl n :: .inl dp :: .inr (.inl q) :: .inl sp :: .inr (.inl p) :: st' => if kd p = 10 ∧ kd q = 10 ∧ st'.length ≤ 4 then
      (if 0 ≤ wr sp ∧ 0 ≤ wr dp ∧ 0 ≤ wr n ∧ wr sp + wr n ≤ ln p ∧ wr dp + wr n ≤ ln q then K (pc + 3) ls st' (cpy σ p (wr sp).toNat q (wr dp).toNat (wr n).toNat) else none) else none
  | _ => none
def s_max : Step := fun _ K pc ls st σ => match st with
  | .inl y :: .inl x :: st' => if st'.length ≤ 4 then K (pc + 3) ls (vI (if wr x < wr y then y else x) :: st') σ else none
  | _ => none
def s_min : Step := fun _ K pc ls st σ => match st with
  | .inl y :: .inl x :: st' => if st'.length ≤ 4 then K (pc + 3) ls (vI (if wr y < wr x then y else x) :: st') σ else none
  | _ => none
def s_no : Step := fun _ _ _ _ _ _ => none
-- THE RUN
def ent (nL : Nat) (as : List AV) : List AV := as ++ List.replicate (nL - as.length) vJ
section RUN
variable (cd : Nat → List Step) (nl : Nat → Nat)
def arun : Nat → Nat → Nat → List AV → List AV → Sg → Res
  | 0, _, _, _, _, _ => none
  | n + 1, m, pc, ls, st, σ => match (cd m)[pc]? with
    | none => none
    | some f => f (fun m' as σ' => arun n m' 0 (ent (nl m') as) [] σ') (fun pc' ls' st' σ' => arun n m pc' ls' st' σ') pc ls st σ
end RUN
abbrev FormAt (f : Step) (pc : Nat) (ls st : List AV) (σ : Sg) : Prop :=
  (∃ r : Res, (∀ C K, f C K pc ls st σ = r) ∧ ∀ q, r = some q → ∀ j i, nP ≤ j → q.2 j i = σ j i) ∨
  (∃ (pc' : Nat) (ls' st' : List AV) (σ' : Sg), (∀ C K, f C K pc ls st σ = K pc' ls' st' σ') ∧ ∀ j i, nP ≤ j → σ' j i = σ j i) ∨
  (∃ (m : Nat) (as : List AV) (g : AV × Sg → Option (Nat × List AV × List AV × Sg)), (∀ (C : Cl) (K : Kn), f C K pc ls st σ = match C m as σ with
    | none => none
    | some r => match g r with
      | none => none
      | some q => K q.1 q.2.1 q.2.2.1 q.2.2.2) ∧ ∀ r q, g r = some q → q.2.2.2 = r.2)
/-- what a step can be: an end, a going on, a call and a going on; what lies beyond the cells stays -/
def Form (f : Step) : Prop := ∀ (pc : Nat) (ls st : List AV) (σ : Sg), FormAt f pc ls st σ
theorem fm_n {f : Step} {pc : Nat} {ls st : List AV} {σ : Sg} {r : Res} (h : ∀ C K, f C K pc ls st σ = r) (hq : ∀ q, r = some q → ∀ j i, nP ≤ j → q.2 j i = σ j i := by first | (intro q hq; cases hq; done) | (intro q hq j i _; cases hq; rfl)) : FormAt f pc ls st σ := Or.inl ⟨r, h, hq⟩
theorem fm_k {f : Step} {pc : Nat} {ls st : List AV} {σ : Sg} {pc' : Nat} {ls' st' : List AV} {σ' : Sg} (h : ∀ C K, f C K pc ls st σ = K pc' ls' st' σ') (hq : ∀ j i, nP ≤ j → σ' j i = σ j i := by intros; rfl) : FormAt f pc ls st σ := Or.inr (Or.inl ⟨pc', ls', st', σ', h, hq⟩)
theorem kd_lt {p c : Nat} (h : kd p = c) (hc : c < 99) : p < nP := by
  rcases Nat.lt_or_ge p nP with q | q
  · exact q
  · have : kd p = 99 := by unfold kd; rw [List.getD_eq_getElem?_getD, List.getElem?_eq_none (show kdL.length ≤ p from q)]; rfl
    omega
theorem up_ne {σ : Sg} {p k q : Nat} {x : Int} (h : q ≠ p) : up σ p k x q = σ q := by
  funext j
  exact if_neg (fun z => h z.1)
theorem cpy_ne {σ : Sg} {p sp a dp n q : Nat} (h : q ≠ a) : cpy σ p sp a dp n q = σ q := by
  funext j
  exact if_neg (fun z => h z.1)
theorem up_hi {σ : Sg} {p k : Nat} {x : Int} (h : p < nP) : ∀ j i, nP ≤ j → up σ p k x j i = σ j i := fun j i hj => by rw [up_ne (by omega)]
theorem cpy_hi {σ : Sg} {p sp a dp n : Nat} (h : a < nP) : ∀ j i, nP ≤ j → cpy σ p sp a dp n j i = σ j i := fun j i hj => by rw [cpy_ne (by omega)]
theorem fm_push (a : Int) (n : Nat) : Form (s_push a n) := fun _ _ _ _ => fm_k fun _ _ => rfl
theorem fm_lpush (a : Int) (n : Nat) : Form (s_lpush a n) := fun _ _ _ _ => fm_k fun _ _ => rfl
theorem fm_goto (t : Nat) : Form (s_goto t) := fun _ _ _ _ => fm_k fun _ _ => rfl
theorem fm_no : Form s_no := fun _ _ _ _ => fm_n fun _ _ => rfl
theorem fm_iload (k n : Nat) : Form (s_iload k n) := by
  intro pc ls st σ
  cases h : ls[k]? with
  | none => exact fm_n (r := none) (fun C K => by simp only [s_iload, h])
  | some v =>
    rcases v with x | x | x | x
    · exact fm_k (pc' := pc + n) (ls' := ls) (st' := vI x :: st) (σ' := σ) (fun C K => by simp only [s_iload, h])
    · exact fm_n (r := none) (fun C K => by simp only [s_iload, h])
    · exact fm_n (r := none) (fun C K => by simp only [s_iload, h])
    · exact fm_n (r := none) (fun C K => by simp only [s_iload, h])
theorem fm_aload (k n : Nat) : Form (s_aload k n) := by
  intro pc ls st σ
  cases h : ls[k]? with
  | none => exact fm_n (r := none) (fun C K => by simp only [s_aload, h])
  | some v =>
    rcases v with x | x | x | x
    · exact fm_n (r := none) (fun C K => by simp only [s_aload, h])
    · exact fm_k (pc' := pc + n) (ls' := ls) (st' := vR x :: st) (σ' := σ) (fun C K => by simp only [s_aload, h])
    · exact fm_n (r := none) (fun C K => by simp only [s_aload, h])
    · exact fm_n (r := none) (fun C K => by simp only [s_aload, h])
theorem fm_lload (k n : Nat) : Form (s_lload k n) := by
  intro pc ls st σ
  cases h : ls[k]? with
  | none => exact fm_n (r := none) (fun C K => by simp only [s_lload, h])
  | some v =>
    rcases v with x | x | x | x
    · exact fm_n (r := none) (fun C K => by simp only [s_lload, h])
    · exact fm_n (r := none) (fun C K => by simp only [s_lload, h])
    · exact fm_k (pc' := pc + n) (ls' := ls) (st' := vL x :: st) (σ' := σ) (fun C K => by simp only [s_lload, h])
    · exact fm_n (r := none) (fun C K => by simp only [s_lload, h])
theorem fm_iinc (k : Nat) (a : Int) : Form (s_iinc k a) := by
  intro pc ls st σ
  cases h : ls[k]? with
  | none => exact fm_n (r := none) (fun C K => by simp only [s_iinc, h])
  | some v =>
    rcases v with x | x | x | x
    · exact fm_k (pc' := pc + 3) (ls' := ls.set k (vI (x + a))) (st' := st) (σ' := σ) (fun C K => by simp only [s_iinc, h])
    · exact fm_n (r := none) (fun C K => by simp only [s_iinc, h])
    · exact fm_n (r := none) (fun C K => by simp only [s_iinc, h])
    · exact fm_n (r := none) (fun C K => by simp only [s_iinc, h])
theorem fm_if {c : Prop} [Decidable c] {f g h : Step} {pc : Nat} {ls st : List AV} {σ : Sg} (hf : ∀ C K, f C K pc ls st σ = if c then g C K pc ls st σ else h C K pc ls st σ) (hg : c → FormAt g pc ls st σ) (hh : FormAt h pc ls st σ) : FormAt f pc ls st σ := by
  by_cases q : c
  · simp only [FormAt, hf, if_pos q]
    exact hg q
  · simp only [FormAt, hf, if_neg q]
    exact hh
theorem fm_noAt {pc : Nat} {ls st : List AV} {σ : Sg} : FormAt s_no pc ls st σ := fm_n (r := none) fun _ _ => rfl
theorem fm_kAt {pc a : Nat} {ls st b d : List AV} {σ : Sg} : FormAt (fun _ K _ _ _ σ => K a b d σ) pc ls st σ := fm_k fun _ _ => rfl
theorem fm_wAt {pc a : Nat} {ls st b d : List AV} {σ e : Sg} (h : ∀ j i, nP ≤ j → e j i = σ j i) : FormAt (fun _ K _ _ _ _ => K a b d e) pc ls st σ := fm_k (fun _ _ => rfl) h
theorem fm_istore (k n : Nat) : Form (s_istore k n) := by
  intro pc ls st σ
  rcases st with _ | ⟨x0 | x0 | x0 | x0, st⟩
  all_goals first | exact fm_n (r := none) (fun _ _ => rfl) | exact fm_k (fun _ _ => rfl)
theorem fm_astore (k n : Nat) : Form (s_astore k n) := by
  intro pc ls st σ
  rcases st with _ | ⟨x0 | x0 | x0 | x0, st⟩
  all_goals first | exact fm_n (r := none) (fun _ _ => rfl) | exact fm_k (fun _ _ => rfl)
theorem fm_lstore (k n : Nat) : Form (s_lstore k n) := by
  intro pc ls st σ
  rcases st with _ | ⟨x0 | x0 | x0 | x0, st⟩
  all_goals first | exact fm_n (r := none) (fun _ _ => rfl) | exact fm_k (fun _ _ => rfl)
theorem fm_bin (f : Int → Int → Int) : Form (s_bin f) := by
  intro pc ls st σ
  rcases st with _ | ⟨x0 | x0 | x0 | x0, _ | ⟨x1 | x1 | x1 | x1, st⟩⟩
  all_goals first | exact fm_n (r := none) (fun _ _ => rfl) | exact fm_k (fun _ _ => rfl)
theorem fm_dup  : Form (s_dup) := by
  intro pc ls st σ
  rcases st with _ | ⟨x0 | x0 | x0 | x0, st⟩
  all_goals first | exact fm_n (r := none) (fun _ _ => rfl) | exact fm_k (fun _ _ => rfl)
theorem fm_dup2  : Form (s_dup2) := by
  intro pc ls st σ
  rcases st with _ | ⟨x0 | x0 | x0 | x0, _ | ⟨x1 | x1 | x1 | x1, st⟩⟩
  all_goals first | exact fm_n (r := none) (fun _ _ => rfl) | exact fm_k (fun _ _ => rfl)
theorem fm_pop  : Form (s_pop) := by
  intro pc ls st σ
  rcases st with _ | ⟨x0 | x0 | x0 | x0, st⟩
  all_goals first | exact fm_n (r := none) (fun _ _ => rfl) | exact fm_k (fun _ _ => rfl)
theorem fm_lbin (f : Int → Int → Int) : Form (s_lbin f) := by
  intro pc ls st σ
  rcases st with _ | ⟨x0 | x0 | x0 | x0, _ | ⟨x1 | x1 | x1 | x1, st⟩⟩
  all_goals first | exact fm_n (r := none) (fun _ _ => rfl) | exact fm_k (fun _ _ => rfl)
theorem fm_i2l  : Form (s_i2l) := by
  intro pc ls st σ
  rcases st with _ | ⟨x0 | x0 | x0 | x0, st⟩
  all_goals first | exact fm_n (r := none) (fun _ _ => rfl) | exact fm_k (fun _ _ => rfl)
theorem fm_l2i  : Form (s_l2i) := by
  intro pc ls st σ
  rcases st with _ | ⟨x0 | x0 | x0 | x0, st⟩
  all_goals first | exact fm_n (r := none) (fun _ _ => rfl) | exact fm_k (fun _ _ => rfl)
theorem fm_i2c  : Form (s_i2c) := by
  intro pc ls st σ
  rcases st with _ | ⟨x0 | x0 | x0 | x0, st⟩
  all_goals first | exact fm_n (r := none) (fun _ _ => rfl) | exact fm_k (fun _ _ => rfl)
theorem fm_ifeq (t : Nat) : Form (s_ifeq t) := by
  intro pc ls st σ
  rcases st with _ | ⟨x0 | x0 | x0 | x0, st⟩
  all_goals first | exact fm_n (r := none) (fun _ _ => rfl) | exact fm_k (fun _ _ => rfl) | exact fm_if (fun _ _ => rfl) (fun _ => fm_kAt) fm_kAt
theorem fm_ifne (t : Nat) : Form (s_ifne t) := by
  intro pc ls st σ
  rcases st with _ | ⟨x0 | x0 | x0 | x0, st⟩
  all_goals first | exact fm_n (r := none) (fun _ _ => rfl) | exact fm_k (fun _ _ => rfl) | exact fm_if (fun _ _ => rfl) (fun _ => fm_kAt) fm_kAt
theorem fm_iflt (t : Nat) : Form (s_iflt t) := by
  intro pc ls st σ
  rcases st with _ | ⟨x0 | x0 | x0 | x0, st⟩
  all_goals first | exact fm_n (r := none) (fun _ _ => rfl) | exact fm_k (fun _ _ => rfl) | exact fm_if (fun _ _ => rfl) (fun _ => fm_kAt) fm_kAt
theorem fm_ifge (t : Nat) : Form (s_ifge t) := by
  intro pc ls st σ
  rcases st with _ | ⟨x0 | x0 | x0 | x0, st⟩
  all_goals first | exact fm_n (r := none) (fun _ _ => rfl) | exact fm_k (fun _ _ => rfl) | exact fm_if (fun _ _ => rfl) (fun _ => fm_kAt) fm_kAt
theorem fm_ifgt (t : Nat) : Form (s_ifgt t) := by
  intro pc ls st σ
  rcases st with _ | ⟨x0 | x0 | x0 | x0, st⟩
  all_goals first | exact fm_n (r := none) (fun _ _ => rfl) | exact fm_k (fun _ _ => rfl) | exact fm_if (fun _ _ => rfl) (fun _ => fm_kAt) fm_kAt
theorem fm_ifle (t : Nat) : Form (s_ifle t) := by
  intro pc ls st σ
  rcases st with _ | ⟨x0 | x0 | x0 | x0, st⟩
  all_goals first | exact fm_n (r := none) (fun _ _ => rfl) | exact fm_k (fun _ _ => rfl) | exact fm_if (fun _ _ => rfl) (fun _ => fm_kAt) fm_kAt
theorem fm_iceq (t : Nat) : Form (s_iceq t) := by
  intro pc ls st σ
  rcases st with _ | ⟨x0 | x0 | x0 | x0, _ | ⟨x1 | x1 | x1 | x1, st⟩⟩
  all_goals first | exact fm_n (r := none) (fun _ _ => rfl) | exact fm_k (fun _ _ => rfl) | exact fm_if (fun _ _ => rfl) (fun _ => fm_kAt) fm_kAt
theorem fm_icne (t : Nat) : Form (s_icne t) := by
  intro pc ls st σ
  rcases st with _ | ⟨x0 | x0 | x0 | x0, _ | ⟨x1 | x1 | x1 | x1, st⟩⟩
  all_goals first | exact fm_n (r := none) (fun _ _ => rfl) | exact fm_k (fun _ _ => rfl) | exact fm_if (fun _ _ => rfl) (fun _ => fm_kAt) fm_kAt
theorem fm_iclt (t : Nat) : Form (s_iclt t) := by
  intro pc ls st σ
  rcases st with _ | ⟨x0 | x0 | x0 | x0, _ | ⟨x1 | x1 | x1 | x1, st⟩⟩
  all_goals first | exact fm_n (r := none) (fun _ _ => rfl) | exact fm_k (fun _ _ => rfl) | exact fm_if (fun _ _ => rfl) (fun _ => fm_kAt) fm_kAt
theorem fm_icge (t : Nat) : Form (s_icge t) := by
  intro pc ls st σ
  rcases st with _ | ⟨x0 | x0 | x0 | x0, _ | ⟨x1 | x1 | x1 | x1, st⟩⟩
  all_goals first | exact fm_n (r := none) (fun _ _ => rfl) | exact fm_k (fun _ _ => rfl) | exact fm_if (fun _ _ => rfl) (fun _ => fm_kAt) fm_kAt
theorem fm_icgt (t : Nat) : Form (s_icgt t) := by
  intro pc ls st σ
  rcases st with _ | ⟨x0 | x0 | x0 | x0, _ | ⟨x1 | x1 | x1 | x1, st⟩⟩
  all_goals first | exact fm_n (r := none) (fun _ _ => rfl) | exact fm_k (fun _ _ => rfl) | exact fm_if (fun _ _ => rfl) (fun _ => fm_kAt) fm_kAt
theorem fm_icle (t : Nat) : Form (s_icle t) := by
  intro pc ls st σ
  rcases st with _ | ⟨x0 | x0 | x0 | x0, _ | ⟨x1 | x1 | x1 | x1, st⟩⟩
  all_goals first | exact fm_n (r := none) (fun _ _ => rfl) | exact fm_k (fun _ _ => rfl) | exact fm_if (fun _ _ => rfl) (fun _ => fm_kAt) fm_kAt
theorem fm_dvd (f : Int → Int → Int) : Form (s_dvd f) := by
  intro pc ls st σ
  rcases st with _ | ⟨x0 | x0 | x0 | x0, _ | ⟨x1 | x1 | x1 | x1, st⟩⟩
  all_goals first | exact fm_n (r := none) (fun _ _ => rfl) | exact fm_k (fun _ _ => rfl) | exact fm_if (fun _ _ => rfl) (fun _ => fm_noAt) fm_kAt
theorem fm_ldvd (f : Int → Int → Int) : Form (s_ldvd f) := by
  intro pc ls st σ
  rcases st with _ | ⟨x0 | x0 | x0 | x0, _ | ⟨x1 | x1 | x1 | x1, st⟩⟩
  all_goals first | exact fm_n (r := none) (fun _ _ => rfl) | exact fm_k (fun _ _ => rfl) | exact fm_if (fun _ _ => rfl) (fun _ => fm_noAt) fm_kAt
theorem fm_getI (c k : Nat) : Form (s_getI c k) := by
  intro pc ls st σ
  rcases st with _ | ⟨x0 | x0 | x0 | x0, st⟩
  all_goals first | exact fm_n (r := none) (fun _ _ => rfl) | exact fm_k (fun _ _ => rfl) | exact fm_if (fun _ _ => rfl) (fun _ => fm_kAt) fm_noAt
theorem fm_getR (c k : Nat) : Form (s_getR c k) := by
  intro pc ls st σ
  rcases st with _ | ⟨x0 | x0 | x0 | x0, st⟩
  all_goals first | exact fm_n (r := none) (fun _ _ => rfl) | exact fm_k (fun _ _ => rfl) | exact fm_if (fun _ _ => rfl) (fun _ => fm_kAt) fm_noAt
theorem fm_putI (c k : Nat) (hc : c < 99) : Form (s_putI c k) := by
  intro pc ls st σ
  rcases st with _ | ⟨x0 | x0 | x0 | x0, _ | ⟨x1 | x1 | x1 | x1, st⟩⟩
  all_goals first | exact fm_n (r := none) (fun _ _ => rfl) | exact fm_k (fun _ _ => rfl) | exact fm_if (fun _ _ => rfl) (fun z => fm_wAt (up_hi (kd_lt z hc))) fm_noAt
theorem fm_alen  : Form (s_alen) := by
  intro pc ls st σ
  rcases st with _ | ⟨x0 | x0 | x0 | x0, st⟩
  all_goals first | exact fm_n (r := none) (fun _ _ => rfl) | exact fm_k (fun _ _ => rfl) | exact fm_if (fun _ _ => rfl) (fun _ => fm_kAt) fm_noAt
theorem fm_slen  : Form (s_slen) := by
  intro pc ls st σ
  rcases st with _ | ⟨x0 | x0 | x0 | x0, st⟩
  all_goals first | exact fm_n (r := none) (fun _ _ => rfl) | exact fm_k (fun _ _ => rfl) | exact fm_if (fun _ _ => rfl) (fun _ => fm_kAt) fm_noAt
theorem fm_max  : Form (s_max) := by
  intro pc ls st σ
  rcases st with _ | ⟨x0 | x0 | x0 | x0, _ | ⟨x1 | x1 | x1 | x1, st⟩⟩
  all_goals first | exact fm_n (r := none) (fun _ _ => rfl) | exact fm_k (fun _ _ => rfl) | exact fm_if (fun _ _ => rfl) (fun _ => fm_kAt) fm_noAt
theorem fm_min  : Form (s_min) := by
  intro pc ls st σ
  rcases st with _ | ⟨x0 | x0 | x0 | x0, _ | ⟨x1 | x1 | x1 | x1, st⟩⟩
  all_goals first | exact fm_n (r := none) (fun _ _ => rfl) | exact fm_k (fun _ _ => rfl) | exact fm_if (fun _ _ => rfl) (fun _ => fm_kAt) fm_noAt
theorem fm_putZ (c k : Nat) (hc : c < 99) : Form (s_putZ c k) := by
  intro pc ls st σ
  rcases st with _ | ⟨x0 | x0 | x0 | x0, _ | ⟨x1 | x1 | x1 | x1, st⟩⟩
  all_goals first | exact fm_n (r := none) (fun _ _ => rfl) | skip
  refine fm_if (c := kd x1 = c) (g := fun _ K pc ls _ σ => if x0 = 0 ∨ x0 = 1 then K (pc + 3) ls st (up σ x1 k x0) else none) (h := s_no) (fun _ _ => rfl) (fun z => fm_if (fun _ _ => rfl) (fun _ => fm_wAt (up_hi (kd_lt z hc))) fm_noAt) fm_noAt
theorem fm_iald  : Form (s_iald) := by
  intro pc ls st σ
  rcases st with _ | ⟨x0 | x0 | x0 | x0, _ | ⟨x1 | x1 | x1 | x1, st⟩⟩
  all_goals first | exact fm_n (r := none) (fun _ _ => rfl) | skip
  refine fm_if (c := kd x1 = 10) (g := fun _ K pc ls _ σ => if 0 ≤ wr x0 ∧ wr x0 < ln x1 then K (pc + 1) ls (vI (σ x1 (wr x0).toNat) :: st) σ else none) (h := s_no) (fun _ _ => rfl) (fun z => fm_if (fun _ _ => rfl) (fun _ => fm_kAt) fm_noAt) fm_noAt
theorem fm_cald  : Form (s_cald) := by
  intro pc ls st σ
  rcases st with _ | ⟨x0 | x0 | x0 | x0, _ | ⟨x1 | x1 | x1 | x1, st⟩⟩
  all_goals first | exact fm_n (r := none) (fun _ _ => rfl) | skip
  refine fm_if (c := kd x1 = 11) (g := fun _ K pc ls _ σ => if 0 ≤ wr x0 ∧ wr x0 < ln x1 then K (pc + 1) ls (vI (σ x1 (wr x0).toNat) :: st) σ else none) (h := s_no) (fun _ _ => rfl) (fun z => fm_if (fun _ _ => rfl) (fun _ => fm_kAt) fm_noAt) fm_noAt
theorem fm_aald  : Form (s_aald) := by
  intro pc ls st σ
  rcases st with _ | ⟨x0 | x0 | x0 | x0, _ | ⟨x1 | x1 | x1 | x1, st⟩⟩
  all_goals first | exact fm_n (r := none) (fun _ _ => rfl) | skip
  refine fm_if (c := kd x1 = 12) (g := fun _ K pc ls _ σ => if 0 ≤ wr x0 ∧ wr x0 < ln x1 then K (pc + 1) ls (vR (lk x1 (wr x0).toNat) :: st) σ else none) (h := s_no) (fun _ _ => rfl) (fun z => fm_if (fun _ _ => rfl) (fun _ => fm_kAt) fm_noAt) fm_noAt
theorem fm_iast  : Form (s_iast) := by
  intro pc ls st σ
  rcases st with _ | ⟨x0 | x0 | x0 | x0, _ | ⟨x1 | x1 | x1 | x1, _ | ⟨x2 | x2 | x2 | x2, st⟩⟩⟩
  all_goals first | exact fm_n (r := none) (fun _ _ => rfl) | skip
  refine fm_if (c := kd x2 = 10) (g := fun _ K pc ls _ σ => if 0 ≤ wr x1 ∧ wr x1 < ln x2 then K (pc + 1) ls st (up σ x2 (wr x1).toNat x0) else none) (h := s_no) (fun _ _ => rfl) (fun z => fm_if (fun _ _ => rfl) (fun _ => fm_wAt (up_hi (kd_lt z (by decide)))) fm_noAt) fm_noAt
theorem fm_cast  : Form (s_cast) := by
  intro pc ls st σ
  rcases st with _ | ⟨x0 | x0 | x0 | x0, _ | ⟨x1 | x1 | x1 | x1, _ | ⟨x2 | x2 | x2 | x2, st⟩⟩⟩
  all_goals first | exact fm_n (r := none) (fun _ _ => rfl) | skip
  refine fm_if (c := kd x2 = 11) (g := fun _ K pc ls _ σ => if (0 ≤ wr x1 ∧ wr x1 < ln x2) ∧ 0 ≤ x0 ∧ x0 < 65536 then K (pc + 1) ls st (up σ x2 (wr x1).toNat x0) else none) (h := s_no) (fun _ _ => rfl) (fun z => fm_if (fun _ _ => rfl) (fun _ => fm_wAt (up_hi (kd_lt z (by decide)))) fm_noAt) fm_noAt
theorem fm_sald  : Form (s_sald) := by
  intro pc ls st σ
  rcases st with _ | ⟨x0 | x0 | x0 | x0, _ | ⟨x1 | x1 | x1 | x1, st⟩⟩
  all_goals first | exact fm_n (r := none) (fun _ _ => rfl) | skip
  refine fm_if (c := x1 = 99) (g := fun _ K pc ls _ σ => if 0 ≤ wr x0 ∧ wr x0 < σ 98 0 then K (pc + 1) ls (vI (σ 99 (wr x0).toNat) :: st) σ else none) (h := s_no) (fun _ _ => rfl) (fun z => fm_if (fun _ _ => rfl) (fun _ => fm_kAt) fm_noAt) fm_noAt
theorem fm_copy  : Form (s_copy) := by
  intro pc ls st σ
  rcases st with _ | ⟨x0 | x0 | x0 | x0, _ | ⟨x1 | x1 | x1 | x1, _ | ⟨x2 | x2 | x2 | x2, _ | ⟨x3 | x3 | x3 | x3, _ | ⟨x4 | x4 | x4 | x4, st⟩⟩⟩⟩⟩
  all_goals first | exact fm_n (r := none) (fun _ _ => rfl) | skip
  refine fm_if (c := kd x4 = 10 ∧ kd x2 = 10 ∧ st.length ≤ 4) (g := fun _ K pc ls _ σ => if 0 ≤ wr x3 ∧ 0 ≤ wr x1 ∧ 0 ≤ wr x0 ∧ wr x3 + wr x0 ≤ ln x4 ∧ wr x1 + wr x0 ≤ ln x2 then K (pc + 3) ls st (cpy σ x4 (wr x3).toNat x2 (wr x1).toNat (wr x0).toNat) else none) (h := s_no) (fun _ _ => rfl) (fun z => fm_if (fun _ _ => rfl) (fun _ => fm_wAt (cpy_hi (kd_lt z.2.1 (by decide)))) fm_noAt) fm_noAt
theorem fm_ldstr : Form s_ldstr := fun _ _ _ _ => fm_k fun _ _ => rfl
theorem fm_strlen  : Form (s_strlen) := by
  intro pc ls st σ
  rcases st with _ | ⟨x0 | x0 | x0 | x0, st⟩
  all_goals first | exact fm_n (r := none) (fun _ _ => rfl) | exact fm_k (fun _ _ => rfl) | exact fm_if (fun _ _ => rfl) (fun _ => fm_kAt) fm_noAt
theorem fm_strch  : Form (s_strch) := by
  intro pc ls st σ
  rcases st with _ | ⟨x0 | x0 | x0 | x0, _ | ⟨x1 | x1 | x1 | x1, st⟩⟩
  all_goals first | exact fm_n (r := none) (fun _ _ => rfl) | skip
  refine fm_if (c := x1 = 97) (g := fun _ K pc ls _ σ => if 0 ≤ wr x0 ∧ wr x0 < 67 then K (pc + 3) ls (vI (strL.getD (wr x0).toNat 0) :: st) σ else none) (h := s_no) (fun _ _ => rfl) (fun z => fm_if (fun _ _ => rfl) (fun _ => fm_kAt) fm_noAt) fm_noAt
theorem fm_iret : Form s_iret := by
  intro pc ls st σ
  rcases st with _ | ⟨x0 | x0 | x0 | x0, _ | ⟨x1, st⟩⟩
  all_goals first | exact fm_n (fun _ _ => rfl) | exact fm_if (g := fun _ _ _ _ _ σ => some (vI x0, σ)) (fun _ _ => rfl) (fun _ => fm_n (fun _ _ => rfl)) fm_noAt
theorem fm_zret : Form s_zret := by
  intro pc ls st σ
  rcases st with _ | ⟨x0 | x0 | x0 | x0, _ | ⟨x1, st⟩⟩
  all_goals first | exact fm_n (fun _ _ => rfl) | exact fm_if (g := fun _ _ _ _ _ σ => some (vI x0, σ)) (fun _ _ => rfl) (fun _ => fm_n (fun _ _ => rfl)) fm_noAt
theorem fm_cret : Form s_cret := by
  intro pc ls st σ
  rcases st with _ | ⟨x0 | x0 | x0 | x0, _ | ⟨x1, st⟩⟩
  all_goals first | exact fm_n (fun _ _ => rfl) | exact fm_if (g := fun _ _ _ _ _ σ => some (vI x0, σ)) (fun _ _ => rfl) (fun _ => fm_n (fun _ _ => rfl)) fm_noAt
theorem fm_aret : Form s_aret := by
  intro pc ls st σ
  rcases st with _ | ⟨x0 | x0 | x0 | x0, _ | ⟨x1, st⟩⟩
  all_goals first | exact fm_n (fun _ _ => rfl) | exact fm_if (g := fun _ _ _ _ _ σ => some (vI x0, σ)) (fun _ _ => rfl) (fun _ => fm_n (fun _ _ => rfl)) fm_noAt
theorem fm_vret : Form s_vret := by
  intro pc ls st σ
  rcases st with _ | ⟨x0, st⟩
  all_goals exact fm_n (fun _ _ => rfl)
theorem fm_sw (d : Nat) (x : Int) (ls st : List AV) (σ : Sg) : ∀ tb : List (Int × Nat), ∃ t : Nat, ∀ K : Kn, swk (fun t => K t ls st σ) d x tb = K t ls st σ
  | [] => ⟨d, fun _ => rfl⟩
  | q :: r => by
    obtain ⟨t, h⟩ := fm_sw d x ls st σ r
    by_cases e : x = q.1
    · exact ⟨q.2, fun K => by show (if x = q.1 then _ else _) = _; rw [if_pos e]⟩
    · exact ⟨t, fun K => by show (if x = q.1 then _ else _) = _; rw [if_neg e]; exact h K⟩
theorem fm_switch (tb : List (Int × Nat)) (d : Nat) : Form (s_switch tb d) := by
  intro pc ls st σ
  rcases st with _ | ⟨x0 | x0 | x0 | x0, st⟩
  all_goals first | exact fm_n (r := none) (fun _ _ => rfl) | skip
  obtain ⟨t, h⟩ := fm_sw d (wr x0) ls st σ tb
  exact fm_k (fun C K => h K)
theorem fm_call (c n : Nat) (f : Step) (hf : Form f) : Form (s_call c n f) := by
  intro pc ls st σ
  cases h : st[n]? with
  | none => exact fm_n (r := none) (fun C K => by simp only [s_call, h])
  | some v =>
    rcases v with x | x | x | x
    · exact fm_n (r := none) (fun C K => by simp only [s_call, h])
    · refine fm_if (c := kd x = c) (g := f) (h := s_no) (fun C K => by simp only [s_call, h]; rfl) (fun _ => hf pc ls st σ) fm_noAt
    · exact fm_n (r := none) (fun C K => by simp only [s_call, h])
    · exact fm_n (r := none) (fun C K => by simp only [s_call, h])
theorem fm_scallI (m n : Nat) : Form (s_scallI m n) := by
  intro pc ls st σ
  by_cases h : (st.drop n).length ≤ 4 ∧ n ≤ st.length ∧ (st.take n).all gA = true
  · refine Or.inr (Or.inr ⟨m, (st.take n).reverse, fun r => match r.1 with
      | .inl x => some (pc + 3, ls, vI x :: st.drop n, r.2)
      | _ => none, fun C K => ?_, fun r q hq => ?_⟩)
    · simp only [s_scallI, if_pos h, kcI]
      cases C m (st.take n).reverse σ with
      | none => rfl
      | some r =>
        obtain ⟨v, s'⟩ := r
        rcases v with x | x | x | x <;> rfl
    · obtain ⟨v, s'⟩ := r
      rcases v with x | x | x | x <;> cases hq
      rfl
  · exact fm_n (r := none) (fun C K => by simp only [s_scallI, if_neg h])
theorem fm_scallR (p0 m n : Nat) : Form (s_scallR p0 m n) := by
  intro pc ls st σ
  by_cases h : (st.drop n).length ≤ 4 ∧ n ≤ st.length ∧ (st.take n).all gA = true
  · refine Or.inr (Or.inr ⟨m, (st.take n).reverse, fun r => match r.1 with
      | .inr (.inl x) => if x = p0 then some (pc + 3, ls, vR p0 :: st.drop n, r.2) else none
      | _ => none, fun C K => ?_, fun r q hq => ?_⟩)
    · simp only [s_scallR, if_pos h, kcR]
      cases C m (st.take n).reverse σ with
      | none => rfl
      | some r =>
        obtain ⟨v, s'⟩ := r
        rcases v with x | x | x | x
        · rfl
        · by_cases e : x = p0
          · simp only [if_pos e]
          · simp only [if_neg e]
        · rfl
        · rfl
    · obtain ⟨v, s'⟩ := r
      rcases v with x | x | x | x
      · cases hq
      · have hq : (if x = p0 then some (pc + 3, ls, vR p0 :: st.drop n, s') else none) = some q := hq
        by_cases e : x = p0
        · rw [if_pos e] at hq; cases hq; rfl
        · rw [if_neg e] at hq; cases hq
      · cases hq
      · cases hq
  · exact fm_n (r := none) (fun C K => by simp only [s_scallR, if_neg h])
theorem fm_scallV (m n : Nat) : Form (s_scallV m n) := by
  intro pc ls st σ
  by_cases h : (st.drop n).length ≤ 4 ∧ n ≤ st.length ∧ (st.take n).all gA = true
  · refine Or.inr (Or.inr ⟨m, (st.take n).reverse, fun r => some (pc + 3, ls, st.drop n, r.2), fun C K => ?_, fun r q hq => ?_⟩)
    · simp only [s_scallV, if_pos h, kcV]
      cases C m (st.take n).reverse σ with
      | none => rfl
      | some r =>
        obtain ⟨v, s'⟩ := r
        rcases v with x | x | x | x <;> rfl
    · cases hq
      rfl
  · exact fm_n (r := none) (fun C K => by simp only [s_scallV, if_neg h])
-- THE LIMIT
section RUN2
variable {cd : Nat → List Step} {nl : Nat → Nat}
theorem arun_mono (hF : ∀ (m pc : Nat) (f : Step), (cd m)[pc]? = some f → Form f) : ∀ (n m pc : Nat) (ls st : List AV) (σ : Sg) (r : AV × Sg), arun cd nl n m pc ls st σ = some r → arun cd nl (n + 1) m pc ls st σ = some r
  | 0, _, _, _, _, _, _ => fun h => by cases h
  | n + 1, m, pc, ls, st, σ, r => fun h => by
    unfold arun at h ⊢
    cases hc : (cd m)[pc]? with
    | none => rw [hc] at h; cases h
    | some f =>
      rw [hc] at h
      dsimp only at h ⊢
      rcases hF m pc f hc pc ls st σ with ⟨x, hx, -⟩ | ⟨a, b, c, d, hx, -⟩ | ⟨m', as, g, hx, -⟩
      · rw [hx] at h ⊢
        exact h
      · rw [hx] at h ⊢
        exact arun_mono hF n m a b c d r h
      · rw [hx] at h ⊢
        cases h1 : arun cd nl n m' 0 (ent (nl m') as) [] σ with
        | none => rw [h1] at h; cases h
        | some q =>
          rw [h1] at h
          rw [arun_mono hF n m' 0 _ [] σ q h1]
          dsimp only at h ⊢
          cases h2 : g q with
          | none => rw [h2] at h; cases h
          | some z =>
            rw [h2] at h
            exact arun_mono hF n m _ _ _ _ r h
/-- what lies beyond the cells stays -/
theorem arun_hi (hF : ∀ (m pc : Nat) (f : Step), (cd m)[pc]? = some f → Form f) : ∀ (n m pc : Nat) (ls st : List AV) (σ : Sg) (r : AV × Sg), arun cd nl n m pc ls st σ = some r → ∀ j i, nP ≤ j → r.2 j i = σ j i
  | 0, _, _, _, _, _, _ => fun h => by cases h
  | n + 1, m, pc, ls, st, σ, r => fun h => by
    unfold arun at h
    cases hc : (cd m)[pc]? with
    | none => rw [hc] at h; cases h
    | some f =>
      rw [hc] at h
      dsimp only at h
      rcases hF m pc f hc pc ls st σ with ⟨x, hx, hi⟩ | ⟨a, b, c, d, hx, hi⟩ | ⟨m', as, g, hx, hi⟩
      · rw [hx] at h
        exact hi r h
      · rw [hx] at h
        exact fun j i hj => (arun_hi hF n m a b c d r h j i hj).trans (hi j i hj)
      · rw [hx] at h
        cases h1 : arun cd nl n m' 0 (ent (nl m') as) [] σ with
        | none => rw [h1] at h; cases h
        | some q =>
          rw [h1] at h
          dsimp only at h
          cases h2 : g q with
          | none => rw [h2] at h; cases h
          | some z =>
            rw [h2] at h
            intro j i hj
            rw [arun_hi hF n m _ _ _ _ r h j i hj, hi q z h2]
            exact arun_hi hF n m' 0 _ [] σ q h1 j i hj
theorem arun_le (hF : ∀ (m pc : Nat) (f : Step), (cd m)[pc]? = some f → Form f) {n m pc : Nat} {ls st : List AV} {σ : Sg} {r : AV × Sg} (h : arun cd nl n m pc ls st σ = some r) : ∀ k : Nat, arun cd nl (n + k) m pc ls st σ = some r
  | 0 => h
  | k + 1 => arun_mono hF _ _ _ _ _ _ _ (arun_le hF h k)
theorem arun_lim (hF : ∀ (m pc : Nat) (f : Step), (cd m)[pc]? = some f → Form f) (m pc : Nat) (ls st : List AV) (σ : Sg) : ∃ r : Res, ∀ x, r = some x ↔ ∃ n, arun cd nl n m pc ls st σ = some x := by
  by_cases h : ∃ n x, arun cd nl n m pc ls st σ = some x
  · obtain ⟨n, x, hx⟩ := h
    refine ⟨some x, fun y => ⟨fun e => ⟨n, by rw [hx, e]⟩, fun ⟨k, hk⟩ => ?_⟩⟩
    have h1 := arun_le hF hx k
    have h2 := arun_le hF hk n
    rw [Nat.add_comm] at h2
    rw [h1] at h2
    exact h2
  · exact ⟨none, fun y => ⟨fun e => (by cases e), fun ⟨k, hk⟩ => absurd ⟨k, y, hk⟩ h⟩⟩
noncomputable def RunF (cd : Nat → List Step) (nl : Nat → Nat) (hF : ∀ (m pc : Nat) (f : Step), (cd m)[pc]? = some f → Form f) (m pc : Nat) (ls st : List AV) (σ : Sg) : Res := Classical.choose (arun_lim (nl := nl) hF m pc ls st σ)
theorem RunF_iff {hF : ∀ (m pc : Nat) (f : Step), (cd m)[pc]? = some f → Form f} {m pc : Nat} {ls st : List AV} {σ : Sg} {x : AV × Sg} : RunF cd nl hF m pc ls st σ = some x ↔ ∃ n, arun cd nl n m pc ls st σ = some x := Classical.choose_spec (arun_lim (nl := nl) hF m pc ls st σ) x
theorem RunF_step {hF : ∀ (m pc : Nat) (f : Step), (cd m)[pc]? = some f → Form f} (m pc : Nat) (ls st : List AV) (σ : Sg) : RunF cd nl hF m pc ls st σ = match (cd m)[pc]? with
    | none => none
    | some f => f (fun m' as σ' => RunF cd nl hF m' 0 (ent (nl m') as) [] σ') (fun pc' ls' st' σ' => RunF cd nl hF m pc' ls' st' σ') pc ls st σ := by
  apply Option.ext
  intro x
  rw [RunF_iff]
  cases hc : (cd m)[pc]? with
  | none =>
    refine ⟨fun ⟨n, h⟩ => ?_, fun h => by cases h⟩
    cases n with
    | zero => cases h
    | succ n => unfold arun at h; rw [hc] at h; cases h
  | some f =>
    dsimp only
    have hn : ∀ n, arun cd nl (n + 1) m pc ls st σ = f (fun m' as σ' => arun cd nl n m' 0 (ent (nl m') as) [] σ') (fun pc' ls' st' σ' => arun cd nl n m pc' ls' st' σ') pc ls st σ := fun n => by
      show (match (cd m)[pc]? with | none => none | some f => _) = _
      rw [hc]
    rcases hF m pc f hc pc ls st σ with ⟨r, hx, -⟩ | ⟨a, b, c, d, hx, -⟩ | ⟨m', as, g, hx, -⟩
    · rw [hx]
      refine ⟨fun ⟨n, h⟩ => ?_, fun h => ⟨1, by rw [hn, hx]; exact h⟩⟩
      cases n with
      | zero => cases h
      | succ n => rw [hn, hx] at h; exact h
    · rw [hx]
      rw [RunF_iff]
      refine ⟨fun ⟨n, h⟩ => ?_, fun ⟨n, h⟩ => ⟨n + 1, by rw [hn, hx]; exact h⟩⟩
      cases n with
      | zero => cases h
      | succ n => rw [hn, hx] at h; exact ⟨n, h⟩
    · rw [hx]
      refine ⟨fun ⟨n, h⟩ => ?_, fun h => ?_⟩
      · cases n with
        | zero => cases h
        | succ n =>
          rw [hn, hx] at h
          cases h1 : arun cd nl n m' 0 (ent (nl m') as) [] σ with
          | none => rw [h1] at h; cases h
          | some q =>
            rw [h1] at h
            rw [RunF_iff.mpr ⟨n, h1⟩]
            dsimp only at h ⊢
            cases h2 : g q with
            | none => rw [h2] at h; cases h
            | some z =>
              rw [h2] at h
              exact RunF_iff.mpr ⟨n, h⟩
      · cases h1 : RunF cd nl hF m' 0 (ent (nl m') as) [] σ with
        | none => rw [h1] at h; cases h
        | some q =>
          rw [h1] at h
          dsimp only at h
          cases h2 : g q with
          | none => rw [h2] at h; cases h
          | some z =>
            rw [h2] at h
            obtain ⟨n1, e1⟩ := RunF_iff.mp h1
            obtain ⟨n2, e2⟩ := RunF_iff.mp h
            refine ⟨n1 + n2 + 1, ?_⟩
            rw [hn, hx, arun_le hF e1 n2]
            dsimp only
            rw [h2]
            have e3 := arun_le hF e2 n1
            rw [Nat.add_comm] at e3
            exact e3
/-- a stretch of the code, unrolled as far as n steps and the stops go -/
def memb (x : Nat) : List Nat → Bool
  | [] => false
  | y :: r => cond (Nat.beq x y) true (memb x r)
def unr (code : List Step) (stop : List Nat) (C : Cl) (K : Kn) : Nat → Nat → List AV → List AV → Sg → Res
  | 0, pc, ls, st, σ => K pc ls st σ
  | n + 1, pc, ls, st, σ => match code[pc]? with
    | none => none
    | some f => f C (fun pc' ls' st' σ' => cond (memb pc' stop) (K pc' ls' st' σ') (unr code stop C K n pc' ls' st' σ')) pc ls st σ
theorem RunF_unr {hF : ∀ (m pc : Nat) (f : Step), (cd m)[pc]? = some f → Form f} (stop : List Nat) (m : Nat) : ∀ (n pc : Nat) (ls st : List AV) (σ : Sg), RunF cd nl hF m pc ls st σ = unr (cd m) stop (fun m' as σ' => RunF cd nl hF m' 0 (ent (nl m') as) [] σ') (fun pc' ls' st' σ' => RunF cd nl hF m pc' ls' st' σ') n pc ls st σ
  | 0, _, _, _, _ => rfl
  | n + 1, pc, ls, st, σ => by
    rw [RunF_step]
    unfold unr
    have e : (fun (pc' : Nat) (ls' st' : List AV) (σ' : Sg) => cond (memb pc' stop) (RunF cd nl hF m pc' ls' st' σ') (unr (cd m) stop (fun m' as σ' => RunF cd nl hF m' 0 (ent (nl m') as) [] σ') (fun pc' ls' st' σ' => RunF cd nl hF m pc' ls' st' σ') n pc' ls' st' σ')) = fun pc' ls' st' σ' => RunF cd nl hF m pc' ls' st' σ' := by
      funext a b c d
      cases memb a stop
      · exact (RunF_unr stop m n a b c d).symm
      · rfl
    rw [e]
end RUN2
