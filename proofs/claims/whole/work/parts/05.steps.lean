/-! WHAT A STEP OWES (SS), and each kind of step -/
/-- the frame's own facts -/
def Fx (N : Nat) (mi : Nat) (p : Program) (R : Room) (s : State) (m : MethodId) (args : Array Value) (c : Code) (cells slots : Nat) (adr : Nat → Nat) (D : va_G) (cI cC cG : ClassId) (A0 : Nat → Prop) : Prop :=
  p.tables.exec = Jvm.exec ∧ c.code = mB mi ∧ c.maxLocals = nlm mi ∧ s.vm.findClass (mY mi).cls = some m.cls ∧ (∀ w ∈ gwl, w.before args s = true) ∧ va_K D vwCl (tys3 cI cC cG) s ∧ mFr mi ≤ R.frames ∧ mLo mi ≤ R.locals ∧ cells ≤ R.cells ∧ slots ≤ R.slots ∧ va_Nw nestW s ∧ (∀ i j, i < N → j < N → adr i = adr j → i = j) ∧ (∀ i, i < N → A0 (adr i)) ∧ (∀ i k, i < N → lk i k < N) ∧ 40 ≤ N
/-- the abstract state and the real one -/
def Rl (N : Nat) (mi : Nat) (adr : Nat → Nat) (D : va_G) (cI cC cG : ClassId) (A0 : Nat → Prop) (H0 : Heap) (σ0 σ : Sg) (ls : List AV) (lsA : Array Slot) (H : Heap) (locs : List Loc) : Prop :=
  lv_has lsA (nlm mi) (lmap adr 0 ls) ∧ (∀ j x, ls[j]? = some (vL x) → j ∈ mLg mi) ∧ va_P D vwCl (cs N adr cI cC cG σ) H ∧ va_S A0 H0 H locs ∧ (∀ q j, nP ≤ q → σ q j = σ0 q j) ∧ low N ls
/-- the script, which the law alone reads -/
def Scr (adr : Nat → Nat) (s : State) (A0 : Nat → Prop) (H0 : Heap) (σ0 : Sg) : Prop := ∃ (L : Nat) (xs : Nat → Int32), va_X (adr 99) L xs s H0 ∧ adr 99 < H0.size ∧ ¬ A0 (adr 99) ∧ σ0 98 0 = (L : Int) ∧ ∀ j, j < L → Int32.ofInt (σ0 99 j) = xs j
def AP (N : Nat) (adr : Nat → Nat) : Nat → Prop := fun a => ∃ i, i < N ∧ a = adr i
/-- a call's contract -/
def Ok (N : Nat) (l : Launch) (adr : Nat → Nat) (D : va_G) (cI cC cG : ClassId) (m : Nat) (as : List AV) (σ : Sg) (q : AV × Sg) : Prop :=
  Met l (mY m) (mW m) (mRm m) (va_Pc (stk adr as) (fun U => va_P D vwCl (cs N adr cI cC cG σ) U.heap ∧ va_K D vwCl (tys3 cI cC cG) U ∧ va_Nw nestW U)) (fun _ t0 oc t => oc = .returned (if mRk m = 0 then none else some (cvD adr q.1)) ∧ va_P D vwCl (cs N adr cI cC cG q.2) t.heap ∧ va_F (AP N adr) t0 t) 0 0 (AP N adr) ∧ (∀ j i, nP ≤ j → q.2 j i = σ j i)
/-- an end of the method -/
def RetAt (mi pc : Nat) (v : AV) (adr : Nat → Nat) (st : List Value) : Prop :=
  (mRk mi = 0 ∧ mRet mi = none ∧ decode (mB mi) pc = .ok (.return_, 1) ∧ st = []) ∨
  (∃ (x : Int) (ty : FieldType), mRk mi = 1 ∧ v = vI x ∧ mRet mi = some ty ∧ narrow ty (.int (Int32.ofInt x)) = .int (Int32.ofInt x) ∧ decode (mB mi) pc = .ok (.ireturn, 1) ∧ st = [.int (Int32.ofInt x)]) ∨
  (∃ (q : Nat) (C : String), mRk mi = 2 ∧ v = vR q ∧ mRet mi = some (.object C) ∧ decode (mB mi) pc = .ok (.areturn, 1) ∧ st = [.ref (adr q)])
def SS (mi pc : Nat) (f : Step) : Prop := ∀ (N : Nat) (p : Program) (l : Launch) (e : Env) (R : Room) (s : State) (m : MethodId) (args : Array Value) (below : List Frame) (meth : Method) (c : Code) (Q : State → Prop) (cells slots : Nat) (adr : Nat → Nat) (D : va_G) (cI cC cG : ClassId) (A0 : Nat → Prop) (H0 : Heap) (σ0 : Sg) (C : Cl) (K : Kn) (r : AV × Sg),
  Fx N mi p R s m args c cells slots adr D cI cC cG A0 →
  (mi = lawN → Scr adr s A0 H0 σ0) →
  (∀ m' as σ' q, C m' as σ' = some q → mFr m' + 1 ≤ mFr mi → as.all gA = true → as.length ≤ nlm m' → low N as → Ok N l adr D cI cC cG m' as σ' q) →
  (∀ pc' ls' st' σ', K pc' ls' st' σ' = some r → low N st' → ∀ lsA' H' locs', Rl N mi adr D cI cC cG A0 H0 σ0 σ' ls' lsA' H' locs' → W p l e R s m args below meth c H' locs' cells slots Q (F0 m pc' lsA' (stk adr st'))) →
  (∀ pc' lsA' H' locs' st', va_P D vwCl (cs N adr cI cC cG r.2) H' → va_S A0 H0 H' locs' → (∀ q j, nP ≤ q → r.2 q j = σ0 q j) → RetAt mi pc' r.1 adr st' → W p l e R s m args below meth c H' locs' cells slots Q (F0 m pc' lsA' st')) →
  ∀ ls st σ lsA H locs, f C K pc ls st σ = some r → low N st → Rl N mi adr D cI cC cG A0 H0 σ0 σ ls lsA H locs → W p l e R s m args below meth c H locs cells slots Q (F0 m pc lsA (stk adr st))
theorem w_i2c (x : Int) : ((Int32.ofInt x).toUInt32 % 65536).toInt32 = Int32.ofInt (x % 65536) := by
  apply Int32.toBitVec_inj.mp
  apply BitVec.eq_of_toNat_eq
  have h1 : (Int32.ofInt x).toBitVec = BitVec.ofInt 32 x := rfl
  have h2 : (Int32.ofInt (x % 65536)).toBitVec = BitVec.ofInt 32 (x % 65536) := rfl
  have h3 : ((Int32.ofInt x).toUInt32 % 65536).toInt32.toBitVec.toNat = (BitVec.ofInt 32 x).toNat % 65536 := by
    show ((Int32.ofInt x).toUInt32 % 65536).toNat = _
    rw [UInt32.toNat_mod]
    rfl
  rw [h3, h2, BitVec.toNat_ofInt, BitVec.toNat_ofInt]
  omega
theorem ss_no {mi pc : Nat} : SS mi pc s_no := by
  intro N p l e R s m args below meth c Q cells slots adr D cI cC cG A0 H0 σ0 C K r F hZ hC hK hR ls st σ lsA H locs h
  cases h
theorem Rl.set {N mi : Nat} {adr : Nat → Nat} {D : va_G} {cI cC cG : ClassId} {A0 : Nat → Prop} {H0 : Heap} {σ0 σ : Sg} {ls : List AV} {lsA lsB : Array Slot} {H : Heap} {locs : List Loc} {k : Nat} {v : AV} {w : Value} (h : Rl N mi adr D cI cC cG A0 H0 σ0 σ ls lsA H locs) (hk : k < nlm mi) (hg : k = 0 ∨ (k - 1) ∉ mLg mi) (hv : cv adr v = some w) (hn : ∀ x, v ≠ vL x) (hlv : lowA N v)
    (hB : lv_has lsB (nlm mi) ((k, w) :: (lmap adr 0 ls).filter (fun q => !(q.1 == k) && !(q.1 + 1 == k && q.2.category == 2)))) : Rl N mi adr D cI cC cG A0 H0 σ0 σ (ls.set k v) lsB H locs := by
  obtain ⟨h1, h2, h3, h4, h5, h6⟩ := h
  refine ⟨lv_mono hB ?_, ?_, h3, h4, h5, low_s h6 hlv⟩
  · rintro ⟨i, u⟩ hq
    obtain ⟨v', e1, e2⟩ := lmap_at.mp hq
    by_cases hi : i = k
    · subst hi
      have hl : i < ls.length := by
        have := (List.getElem?_eq_some_iff.mp e1).1
        rw [List.length_set] at this
        exact this
      rw [List.getElem?_set_self hl] at e1
      cases e1
      rw [hv] at e2
      cases e2
      exact List.mem_cons_self
    · rw [List.getElem?_set_ne (Ne.symm hi)] at e1
      refine List.mem_cons_of_mem _ (List.mem_filter.mpr ⟨lmap_at.mpr ⟨v', e1, e2⟩, ?_⟩)
      have a1 : (i == k) = false := by simpa using hi
      by_cases a2 : i + 1 = k
      · have a3 : u.category ≠ 2 := by
          intro hc
          rcases v' with x | x | x | x
          · cases e2; cases hc
          · cases e2; cases hc
          · have := h2 i x e1
            rcases hg with g | g
            · omega
            · exact g (by rw [show k - 1 = i by omega]; exact this)
          · cases e2
        have a4 : (u.category == 2) = false := by simpa using a3
        simp [a1, a4]
      · have a3 : (i + 1 == k) = false := by simpa using a2
        simp [a1, a3]
  · intro j x hj
    by_cases hi : j = k
    · subst hi
      exfalso
      rcases Nat.lt_or_ge j ls.length with g | g
      · rw [List.getElem?_set_self g] at hj
        exact hn x (Option.some.inj hj)
      · rw [List.getElem?_eq_none (by rw [List.length_set]; exact g)] at hj
        cases hj
    · rw [List.getElem?_set_ne (Ne.symm hi)] at hj
      exact h2 j x hj
theorem Rl.setL {N mi : Nat} {adr : Nat → Nat} {D : va_G} {cI cC cG : ClassId} {A0 : Nat → Prop} {H0 : Heap} {σ0 σ : Sg} {ls : List AV} {lsA lsB : Array Slot} {H : Heap} {locs : List Loc} {k : Nat} {x : Int} (h : Rl N mi adr D cI cC cG A0 H0 σ0 σ ls lsA H locs) (hk : k + 1 < nlm mi) (hg : k = 0 ∨ (k - 1) ∉ mLg mi) (hkl : k ∈ mLg mi)
    (hB : lv_has lsB (nlm mi) ((k, .long (Int64.ofInt x)) :: (lmap adr 0 ls).filter (fun q => !(q.1 == k) && (!(q.1 == k + 1) && !(q.1 + 1 == k && q.2.category == 2))))) : Rl N mi adr D cI cC cG A0 H0 σ0 σ ((ls.set k (vL x)).set (k + 1) vJ) lsB H locs := by
  obtain ⟨h1, h2, h3, h4, h5, h6⟩ := h
  refine ⟨lv_mono hB ?_, ?_, h3, h4, h5, low_s (low_s h6 trivial) trivial⟩
  · rintro ⟨i, u⟩ hq
    obtain ⟨v', e1, e2⟩ := lmap_at.mp hq
    by_cases hi1 : i = k + 1
    · subst hi1
      have hl : k + 1 < (ls.set k (vL x)).length := by
        have := (List.getElem?_eq_some_iff.mp e1).1
        rw [List.length_set] at this
        exact this
      rw [List.getElem?_set_self hl] at e1
      cases e1
      cases e2
    · rw [List.getElem?_set_ne (Ne.symm hi1)] at e1
      by_cases hi : i = k
      · subst hi
        have hl : i < ls.length := by
          have := (List.getElem?_eq_some_iff.mp e1).1
          rw [List.length_set] at this
          exact this
        rw [List.getElem?_set_self hl] at e1
        cases e1
        cases e2
        exact List.mem_cons_self
      · rw [List.getElem?_set_ne (Ne.symm hi)] at e1
        refine List.mem_cons_of_mem _ (List.mem_filter.mpr ⟨lmap_at.mpr ⟨v', e1, e2⟩, ?_⟩)
        have a1 : (i == k) = false := by simpa using hi
        have a0 : (i == k + 1) = false := by simpa using hi1
        by_cases a2 : i + 1 = k
        · have a3 : u.category ≠ 2 := by
            intro hc
            rcases v' with y | y | y | y
            · cases e2; cases hc
            · cases e2; cases hc
            · have := h2 i y e1
              rcases hg with g | g
              · omega
              · exact g (by rw [show k - 1 = i by omega]; exact this)
            · cases e2
          have a4 : (u.category == 2) = false := by simpa using a3
          simp [a1, a4, a0]
        · have a3 : (i + 1 == k) = false := by simpa using a2
          simp [a1, a3, a0]
  · intro j y hj
    by_cases hi1 : j = k + 1
    · subst hi1
      exfalso
      rcases Nat.lt_or_ge (k + 1) (ls.set k (vL x)).length with g | g
      · rw [List.getElem?_set_self g] at hj
        cases hj
      · rw [List.getElem?_eq_none (by rw [List.length_set]; exact g)] at hj
        cases hj
    · rw [List.getElem?_set_ne (Ne.symm hi1)] at hj
      by_cases hi : j = k
      · subst hi
        exact hkl
      · rw [List.getElem?_set_ne (Ne.symm hi)] at hj
        exact h2 j y hj
theorem Rl.loc {N mi : Nat} {adr : Nat → Nat} {D : va_G} {cI cC cG : ClassId} {A0 : Nat → Prop} {H0 : Heap} {σ0 σ : Sg} {ls : List AV} {lsA : Array Slot} {H : Heap} {locs : List Loc} {k : Nat} {v : AV} {w : Value} (h : Rl N mi adr D cI cC cG A0 H0 σ0 σ ls lsA H locs) (hk : ls[k]? = some v) (hv : cv adr v = some w) : lsA[k]? = some (.val w) := h.1.2.2 (k, w) (lmap_at.mpr ⟨v, hk, hv⟩)
theorem Rl.lowv {N mi : Nat} {adr : Nat → Nat} {D : va_G} {cI cC cG : ClassId} {A0 : Nat → Prop} {H0 : Heap} {σ0 σ : Sg} {ls : List AV} {lsA : Array Slot} {H : Heap} {locs : List Loc} {k : Nat} {v : AV} (h : Rl N mi adr D cI cC cG A0 H0 σ0 σ ls lsA H locs) (hk : ls[k]? = some v) : lowA N v := h.2.2.2.2.2 v (List.mem_of_getElem? hk)
/-- a cell of ints, chars or fields is written -/
theorem Rl.put {N mi : Nat} {adr : Nat → Nat} {D : va_G} {cI cC cG : ClassId} {A0 : Nat → Prop} {H0 : Heap} {σ0 σ σ' : Sg} {ls : List AV} {lsA : Array Slot} {H H1 : Heap} {locs locs1 : List Loc} {p : Nat} {en : va_E} (h : Rl N mi adr D cI cC cG A0 H0 σ0 σ ls lsA H locs) (hp : p < N) (hpn : p < nP) (hq : ∀ q, q ≠ p → σ' q = σ q) (he : en = cE adr cI cC cG σ' p) (hP : va_P D vwCl ((cs N adr cI cC cG σ).set p (adr p, en)) H1) (hS : va_S A0 H0 H1 locs1) : Rl N mi adr D cI cC cG A0 H0 σ0 σ' ls lsA H1 locs1 := by
  obtain ⟨h1, h2, h3, h4, h5, h6⟩ := h
  rw [cs_set hp hq he] at hP
  exact ⟨h1, h2, hP, hS, fun q j hj => by rw [hq q (by omega)]; exact h5 q j hj, h6⟩
theorem cE_upI {adr : Nat → Nat} {cI cC cG : ClassId} {σ : Sg} {p k : Nat} {x : Int} (h : kd p = 10) : (.inl (cI, ln p, .inl (upd (fun j => Int32.ofInt (σ p j)) k (Int32.ofInt x))) : va_E) = cE adr cI cC cG (up σ p k x) p := by
  rw [cE_i h]
  congr 4
  funext j
  by_cases e : j = k
  · simp [upd, up, e]
  · simp [upd, up, e]
theorem cE_upC {adr : Nat → Nat} {cI cC cG : ClassId} {σ : Sg} {p k : Nat} {x : Int} (h : kd p = 11) : (.inl (cC, ln p, .inl (upd (fun j => Int32.ofInt (σ p j)) k (Int32.ofInt x))) : va_E) = cE adr cI cC cG (up σ p k x) p := by
  rw [cE_c h]
  congr 4
  funext j
  by_cases e : j = k
  · simp [upd, up, e]
  · simp [upd, up, e]
theorem cE_upF {adr : Nat → Nat} {cI cC cG : ClassId} {σ : Sg} {p c k : Nat} {x : Int} (h : kd p = c) (hc : c < 10) (hk : k < nf c) (hr : isR c k = false) : (.inr (c, (fsO adr σ p c).set k (.int (Int32.ofInt x))) : va_E) = cE adr cI cC cG (up σ p k x) p := by
  rw [cE_o h hc]
  congr 2
  apply List.ext_getElem?
  intro i
  by_cases e : i = k
  · subst e
    rw [List.getElem?_set_self (by rw [fsO_len]; exact hk), fsO_at hk, hr]
    simp [up]
  · rw [List.getElem?_set_ne (Ne.symm e)]
    rcases Nat.lt_or_ge i (nf c) with g | g
    · rw [fsO_at g, fsO_at g]
      simp [up, e]
    · rw [List.getElem?_eq_none (by rw [fsO_len]; exact g), List.getElem?_eq_none (by rw [fsO_len]; exact g)]
theorem cE_cpy {adr : Nat → Nat} {cI cC cG : ClassId} {σ : Sg} {p q sp dp n : Nat} (h : kd q = 10) : (.inl (cI, ln q, .inl (va_cpy (fun j => Int32.ofInt (σ p j)) (fun j => Int32.ofInt (σ q j)) sp dp n)) : va_E) = cE adr cI cC cG (cpy σ p sp q dp n) q := by
  rw [cE_i h]
  congr 4
  funext j
  by_cases e : dp ≤ j ∧ j < dp + n
  · simp [va_cpy, cpy, e]
  · simp [va_cpy, cpy, e]
theorem ss_iload {mi pc k n : Nat} (hd : (∃ h : k < 4, decode (mB mi) pc = .ok (.iload_n ⟨k, h⟩, 1) ∧ n = 1) ∨ (decode (mB mi) pc = .ok (.iload k, 2) ∧ n = 2)) : SS mi pc (s_iload k n) := by
  intro N p l e R s m args below meth c Q cells slots adr D cI cC cG A0 H0 σ0 C K r F hZ hC hK hR ls st σ lsA H locs h hw hl
  obtain ⟨hx, hb, hml, hown, hts, hKK, hfr, hlo, hce, hsl, hnw, hinj, hA0, hcl0, hN40⟩ := id F
  unfold s_iload at h
  cases hk : ls[k]? with
  | none => rw [hk] at h; cases h
  | some v =>
    rw [hk] at h
    rcases v with x | x | x | x
    · have hv := hl.loc hk (rfl : cv adr (vI x) = some _)
      rcases hd with ⟨h4, hd, rfl⟩ | ⟨hd, rfl⟩
      · exact lv_iload_n hx hb hd rfl hv (hK _ _ _ _ h (low_i hw) _ _ _ hl)
      · exact lv_iload hx hb hd hv (hK _ _ _ _ h (low_i hw) _ _ _ hl)
    · cases h
    · cases h
    · cases h
theorem ss_aload {mi pc k n : Nat} (hd : (∃ h : k < 4, decode (mB mi) pc = .ok (.aload_n ⟨k, h⟩, 1) ∧ n = 1) ∨ (decode (mB mi) pc = .ok (.aload k, 2) ∧ n = 2)) : SS mi pc (s_aload k n) := by
  intro N p l e R s m args below meth c Q cells slots adr D cI cC cG A0 H0 σ0 C K r F hZ hC hK hR ls st σ lsA H locs h hw hl
  obtain ⟨hx, hb, hml, hown, hts, hKK, hfr, hlo, hce, hsl, hnw, hinj, hA0, hcl0, hN40⟩ := id F
  unfold s_aload at h
  cases hk : ls[k]? with
  | none => rw [hk] at h; cases h
  | some v =>
    rw [hk] at h
    rcases v with x | x | x | x
    · cases h
    · have hv := hl.loc hk (rfl : cv adr (vR x) = some _)
      rcases hd with ⟨h4, hd, rfl⟩ | ⟨hd, rfl⟩
      · exact lv_aload_n hx hb hd rfl hv (hK _ _ _ _ h (low_c (hl.lowv hk) hw) _ _ _ hl)
      · exact lv_aload hx hb hd hv (hK _ _ _ _ h (low_c (hl.lowv hk) hw) _ _ _ hl)
    · cases h
    · cases h
theorem ss_lload {mi pc k n : Nat} (hd : (∃ h : k < 4, decode (mB mi) pc = .ok (.lload_n ⟨k, h⟩, 1) ∧ n = 1) ∨ (decode (mB mi) pc = .ok (.lload k, 2) ∧ n = 2)) : SS mi pc (s_lload k n) := by
  intro N p l e R s m args below meth c Q cells slots adr D cI cC cG A0 H0 σ0 C K r F hZ hC hK hR ls st σ lsA H locs h hw hl
  obtain ⟨hx, hb, hml, hown, hts, hKK, hfr, hlo, hce, hsl, hnw, hinj, hA0, hcl0, hN40⟩ := id F
  unfold s_lload at h
  cases hk : ls[k]? with
  | none => rw [hk] at h; cases h
  | some v =>
    rw [hk] at h
    rcases v with x | x | x | x
    · cases h
    · cases h
    · have hv := hl.loc hk (rfl : cv adr (vL x) = some _)
      rcases hd with ⟨h4, hd, rfl⟩ | ⟨hd, rfl⟩
      · exact lv_lload_n hx hb hd rfl hv (hK _ _ _ _ h (low_l hw) _ _ _ hl)
      · exact lv_lload hx hb hd hv (hK _ _ _ _ h (low_l hw) _ _ _ hl)
    · cases h
theorem ss_istore {mi pc k n : Nat} (hd : (∃ h : k < 4, decode (mB mi) pc = .ok (.istore_n ⟨k, h⟩, 1) ∧ n = 1) ∨ (decode (mB mi) pc = .ok (.istore k, 2) ∧ n = 2)) (hk : k < nlm mi) (hg : k = 0 ∨ (k - 1) ∉ mLg mi) : SS mi pc (s_istore k n) := by
  intro N p l e R s m args below meth c Q cells slots adr D cI cC cG A0 H0 σ0 C K r F hZ hC hK hR ls st σ lsA H locs h hw hl
  obtain ⟨hx, hb, hml, hown, hts, hKK, hfr, hlo, hce, hsl, hnw, hinj, hA0, hcl0, hN40⟩ := id F
  rcases st with _ | ⟨x0 | x0 | x0 | x0, st⟩
  all_goals first | (cases h; done) | skip
  rcases hd with ⟨h4, hd, rfl⟩ | ⟨hd, rfl⟩
  · exact lv_istore_n hx hb hd rfl hl.1 hk rfl (fun lsB hB => hK _ _ _ _ h (low_t hw) _ _ _ (hl.set hk hg (v := vI x0) rfl (fun _ z => by cases z) (low_h hw) hB))
  · exact lv_istore hx hb hd hl.1 hk rfl (fun lsB hB => hK _ _ _ _ h (low_t hw) _ _ _ (hl.set hk hg (v := vI x0) rfl (fun _ z => by cases z) (low_h hw) hB))
theorem ss_astore {mi pc k n : Nat} (hd : (∃ h : k < 4, decode (mB mi) pc = .ok (.astore_n ⟨k, h⟩, 1) ∧ n = 1) ∨ (decode (mB mi) pc = .ok (.astore k, 2) ∧ n = 2)) (hk : k < nlm mi) (hg : k = 0 ∨ (k - 1) ∉ mLg mi) : SS mi pc (s_astore k n) := by
  intro N p l e R s m args below meth c Q cells slots adr D cI cC cG A0 H0 σ0 C K r F hZ hC hK hR ls st σ lsA H locs h hw hl
  obtain ⟨hx, hb, hml, hown, hts, hKK, hfr, hlo, hce, hsl, hnw, hinj, hA0, hcl0, hN40⟩ := id F
  rcases st with _ | ⟨x0 | x0 | x0 | x0, st⟩
  all_goals first | (cases h; done) | skip
  rcases hd with ⟨h4, hd, rfl⟩ | ⟨hd, rfl⟩
  · exact lv_astore_n hx hb hd rfl hl.1 hk rfl (fun lsB hB => hK _ _ _ _ h (low_t hw) _ _ _ (hl.set hk hg (v := vR x0) rfl (fun _ z => by cases z) (low_h hw) hB))
  · exact lv_astore hx hb hd hl.1 hk rfl (fun lsB hB => hK _ _ _ _ h (low_t hw) _ _ _ (hl.set hk hg (v := vR x0) rfl (fun _ z => by cases z) (low_h hw) hB))
theorem ss_lstore {mi pc k n : Nat} (hd : (∃ h : k < 4, decode (mB mi) pc = .ok (.lstore_n ⟨k, h⟩, 1) ∧ n = 1) ∨ (decode (mB mi) pc = .ok (.lstore k, 2) ∧ n = 2)) (hk : k + 1 < nlm mi) (hg : k = 0 ∨ (k - 1) ∉ mLg mi) (hkl : k ∈ mLg mi) : SS mi pc (s_lstore k n) := by
  intro N p l e R s m args below meth c Q cells slots adr D cI cC cG A0 H0 σ0 C K r F hZ hC hK hR ls st σ lsA H locs h hw hl
  obtain ⟨hx, hb, hml, hown, hts, hKK, hfr, hlo, hce, hsl, hnw, hinj, hA0, hcl0, hN40⟩ := id F
  rcases st with _ | ⟨x0 | x0 | x0 | x0, st⟩
  all_goals first | (cases h; done) | skip
  rcases hd with ⟨h4, hd, rfl⟩ | ⟨hd, rfl⟩
  · exact lv_lstore_n hx hb hd rfl hl.1 hk rfl (fun lsB hB => hK _ _ _ _ h (low_t hw) _ _ _ (hl.setL hk hg hkl hB))
  · exact lv_lstore hx hb hd hl.1 hk rfl (fun lsB hB => hK _ _ _ _ h (low_t hw) _ _ _ (hl.setL hk hg hkl hB))
theorem ss_iinc {mi pc k : Nat} {a : Int} (hd : decode (mB mi) pc = .ok (.iinc k a, 3)) (hk : k < nlm mi) (hg : k = 0 ∨ (k - 1) ∉ mLg mi) : SS mi pc (s_iinc k a) := by
  intro N p l e R s m args below meth c Q cells slots adr D cI cC cG A0 H0 σ0 C K r F hZ hC hK hR ls st σ lsA H locs h hw hl
  obtain ⟨hx, hb, hml, hown, hts, hKK, hfr, hlo, hce, hsl, hnw, hinj, hA0, hcl0, hN40⟩ := id F
  unfold s_iinc at h
  cases hq : ls[k]? with
  | none => rw [hq] at h; cases h
  | some v =>
    rw [hq] at h
    rcases v with x | x | x | x
    · obtain ⟨i, hi⟩ := List.getElem?_of_mem (lmap_at.mpr ⟨_, hq, (rfl : cv adr (vI x) = some _)⟩)
      exact lv_iinc (k := i) (v := Int32.ofInt (x + a)) hx hb hd hl.1 hi (by rw [Int32.ofInt_add]) hk rfl (fun lsB hB => hK _ _ _ _ h hw _ _ _ (hl.set hk hg (v := vI (x + a)) rfl (fun _ z => by cases z) trivial hB))
    · cases h
    · cases h
    · cases h
theorem ss_push {mi pc n : Nat} {a : Int} (hd : (decode (mB mi) pc = .ok (.iconst a, 1) ∧ n = 1) ∨ (decode (mB mi) pc = .ok (.bipush a, 2) ∧ n = 2 ∧ (Int8.ofInt a).toInt32 = Int32.ofInt a) ∨ (decode (mB mi) pc = .ok (.sipush a, 3) ∧ n = 3 ∧ (Int16.ofInt a).toInt32 = Int32.ofInt a) ∨ (∃ idx, decode (mB mi) pc = .ok (.ldc_w idx, 3) ∧ n = 3 ∧ Cond.constant (mY mi).cls idx (Int32.ofInt a) ∈ gwl)) : SS mi pc (s_push a n) := by
  intro N p l e R s m args below meth c Q cells slots adr D cI cC cG A0 H0 σ0 C K r F hZ hC hK hR ls st σ lsA H locs h hw hl
  obtain ⟨hx, hb, hml, hown, hts, hKK, hfr, hlo, hce, hsl, hnw, hinj, hA0, hcl0, hN40⟩ := id F
  rcases hd with ⟨hd, rfl⟩ | ⟨hd, rfl, hv⟩ | ⟨hd, rfl, hv⟩ | ⟨idx, hd, rfl, hv⟩
  · exact lv_iconst hx hb hd rfl (hK _ _ _ _ h (low_i hw) _ _ _ hl)
  · exact lv_bipush hx hb hd hv (hK _ _ _ _ h (low_i hw) _ _ _ hl)
  · exact lv_sipush hx hb hd hv (hK _ _ _ _ h (low_i hw) _ _ _ hl)
  · exact lv_ldcw hx hb hown (hts _ hv) hd (hK _ _ _ _ h (low_i hw) _ _ _ hl)
theorem ss_lpush {mi pc n : Nat} {a : Int} (hd : (∃ k : Fin 2, decode (mB mi) pc = .ok (.lconst k, 1) ∧ n = 1 ∧ Int64.ofNat k.val = Int64.ofInt a) ∨ (∃ idx, decode (mB mi) pc = .ok (.ldc2_w idx, 3) ∧ n = 3 ∧ Cond.constantLong (mY mi).cls idx (Int64.ofInt a) ∈ gwl)) : SS mi pc (s_lpush a n) := by
  intro N p l e R s m args below meth c Q cells slots adr D cI cC cG A0 H0 σ0 C K r F hZ hC hK hR ls st σ lsA H locs h hw hl
  obtain ⟨hx, hb, hml, hown, hts, hKK, hfr, hlo, hce, hsl, hnw, hinj, hA0, hcl0, hN40⟩ := id F
  rcases hd with ⟨k, hd, rfl, hv⟩ | ⟨idx, hd, rfl, hv⟩
  · exact lv_lconst hx hb hd hv (hK _ _ _ _ h (low_l hw) _ _ _ hl)
  · exact lv_ldc2 hx hb hown (hts _ hv) hd (hK _ _ _ _ h (low_l hw) _ _ _ hl)
theorem ss_iadd {mi pc : Nat} (hd : decode (mB mi) pc = .ok (.iadd, 1)) : SS mi pc (s_bin iAd) := by
  intro N p l e R s m args below meth c Q cells slots adr D cI cC cG A0 H0 σ0 C K r F hZ hC hK hR ls st σ lsA H locs h hw hl
  obtain ⟨hx, hb, hml, hown, hts, hKK, hfr, hlo, hce, hsl, hnw, hinj, hA0, hcl0, hN40⟩ := id F
  rcases st with _ | ⟨x0 | x0 | x0 | x0, _ | ⟨x1 | x1 | x1 | x1, st⟩⟩
  all_goals first | (cases h; done) | skip
  have k0 := hK _ _ _ _ h (low_i (low_t (low_t hw))) _ _ _ hl
  have e0 : Int32.ofInt (iAd x1 x0) = _ := Int32.ofInt_add x1 x0
  refine lv_iadd hx hb hd ?_
  rw [← e0]
  exact k0
theorem ss_isub {mi pc : Nat} (hd : decode (mB mi) pc = .ok (.isub, 1)) : SS mi pc (s_bin iSu) := by
  intro N p l e R s m args below meth c Q cells slots adr D cI cC cG A0 H0 σ0 C K r F hZ hC hK hR ls st σ lsA H locs h hw hl
  obtain ⟨hx, hb, hml, hown, hts, hKK, hfr, hlo, hce, hsl, hnw, hinj, hA0, hcl0, hN40⟩ := id F
  rcases st with _ | ⟨x0 | x0 | x0 | x0, _ | ⟨x1 | x1 | x1 | x1, st⟩⟩
  all_goals first | (cases h; done) | skip
  have k0 := hK _ _ _ _ h (low_i (low_t (low_t hw))) _ _ _ hl
  have e0 : Int32.ofInt (iSu x1 x0) = _ := Int32.ofInt_sub x1 x0
  refine lv_isub hx hb hd ?_
  rw [← e0]
  exact k0
theorem ss_imul {mi pc : Nat} (hd : decode (mB mi) pc = .ok (.imul, 1)) : SS mi pc (s_bin iMu) := by
  intro N p l e R s m args below meth c Q cells slots adr D cI cC cG A0 H0 σ0 C K r F hZ hC hK hR ls st σ lsA H locs h hw hl
  obtain ⟨hx, hb, hml, hown, hts, hKK, hfr, hlo, hce, hsl, hnw, hinj, hA0, hcl0, hN40⟩ := id F
  rcases st with _ | ⟨x0 | x0 | x0 | x0, _ | ⟨x1 | x1 | x1 | x1, st⟩⟩
  all_goals first | (cases h; done) | skip
  have k0 := hK _ _ _ _ h (low_i (low_t (low_t hw))) _ _ _ hl
  have e0 : Int32.ofInt (iMu x1 x0) = _ := Int32.ofInt_mul x1 x0
  refine lv_imul hx hb hd ?_
  rw [← e0]
  exact k0
theorem ss_iand {mi pc : Nat} (hd : decode (mB mi) pc = .ok (.iand, 1)) : SS mi pc (s_bin ban) := by
  intro N p l e R s m args below meth c Q cells slots adr D cI cC cG A0 H0 σ0 C K r F hZ hC hK hR ls st σ lsA H locs h hw hl
  obtain ⟨hx, hb, hml, hown, hts, hKK, hfr, hlo, hce, hsl, hnw, hinj, hA0, hcl0, hN40⟩ := id F
  rcases st with _ | ⟨x0 | x0 | x0 | x0, _ | ⟨x1 | x1 | x1 | x1, st⟩⟩
  all_goals first | (cases h; done) | skip
  have k0 := hK _ _ _ _ h (low_i (low_t (low_t hw))) _ _ _ hl
  have e0 : Int32.ofInt (ban x1 x0) = _ := w_rt _
  refine lv_iand hx hb hd ?_
  rw [← e0]
  exact k0
theorem ss_ior {mi pc : Nat} (hd : decode (mB mi) pc = .ok (.ior, 1)) : SS mi pc (s_bin bor) := by
  intro N p l e R s m args below meth c Q cells slots adr D cI cC cG A0 H0 σ0 C K r F hZ hC hK hR ls st σ lsA H locs h hw hl
  obtain ⟨hx, hb, hml, hown, hts, hKK, hfr, hlo, hce, hsl, hnw, hinj, hA0, hcl0, hN40⟩ := id F
  rcases st with _ | ⟨x0 | x0 | x0 | x0, _ | ⟨x1 | x1 | x1 | x1, st⟩⟩
  all_goals first | (cases h; done) | skip
  have k0 := hK _ _ _ _ h (low_i (low_t (low_t hw))) _ _ _ hl
  have e0 : Int32.ofInt (bor x1 x0) = _ := w_rt _
  refine lv_ior hx hb hd ?_
  rw [← e0]
  exact k0
theorem ss_ixor {mi pc : Nat} (hd : decode (mB mi) pc = .ok (.ixor, 1)) : SS mi pc (s_bin bxo) := by
  intro N p l e R s m args below meth c Q cells slots adr D cI cC cG A0 H0 σ0 C K r F hZ hC hK hR ls st σ lsA H locs h hw hl
  obtain ⟨hx, hb, hml, hown, hts, hKK, hfr, hlo, hce, hsl, hnw, hinj, hA0, hcl0, hN40⟩ := id F
  rcases st with _ | ⟨x0 | x0 | x0 | x0, _ | ⟨x1 | x1 | x1 | x1, st⟩⟩
  all_goals first | (cases h; done) | skip
  have k0 := hK _ _ _ _ h (low_i (low_t (low_t hw))) _ _ _ hl
  have e0 : Int32.ofInt (bxo x1 x0) = _ := w_rt _
  refine lv_ixor hx hb hd ?_
  rw [← e0]
  exact k0
theorem ss_ishl {mi pc : Nat} (hd : decode (mB mi) pc = .ok (.ishl, 1)) : SS mi pc (s_bin bsl) := by
  intro N p l e R s m args below meth c Q cells slots adr D cI cC cG A0 H0 σ0 C K r F hZ hC hK hR ls st σ lsA H locs h hw hl
  obtain ⟨hx, hb, hml, hown, hts, hKK, hfr, hlo, hce, hsl, hnw, hinj, hA0, hcl0, hN40⟩ := id F
  rcases st with _ | ⟨x0 | x0 | x0 | x0, _ | ⟨x1 | x1 | x1 | x1, st⟩⟩
  all_goals first | (cases h; done) | skip
  have k0 := hK _ _ _ _ h (low_i (low_t (low_t hw))) _ _ _ hl
  have e0 : Int32.ofInt (bsl x1 x0) = _ := w_rt _
  refine lv_ishl hx hb hd ?_
  rw [← e0]
  exact k0
theorem ss_ishr {mi pc : Nat} (hd : decode (mB mi) pc = .ok (.ishr, 1)) : SS mi pc (s_bin bsr) := by
  intro N p l e R s m args below meth c Q cells slots adr D cI cC cG A0 H0 σ0 C K r F hZ hC hK hR ls st σ lsA H locs h hw hl
  obtain ⟨hx, hb, hml, hown, hts, hKK, hfr, hlo, hce, hsl, hnw, hinj, hA0, hcl0, hN40⟩ := id F
  rcases st with _ | ⟨x0 | x0 | x0 | x0, _ | ⟨x1 | x1 | x1 | x1, st⟩⟩
  all_goals first | (cases h; done) | skip
  have k0 := hK _ _ _ _ h (low_i (low_t (low_t hw))) _ _ _ hl
  have e0 : Int32.ofInt (bsr x1 x0) = _ := w_rt _
  refine lv_ishr hx hb hd ?_
  rw [← e0]
  exact k0
theorem ss_iushr {mi pc : Nat} (hd : decode (mB mi) pc = .ok (.iushr, 1)) : SS mi pc (s_bin bus) := by
  intro N p l e R s m args below meth c Q cells slots adr D cI cC cG A0 H0 σ0 C K r F hZ hC hK hR ls st σ lsA H locs h hw hl
  obtain ⟨hx, hb, hml, hown, hts, hKK, hfr, hlo, hce, hsl, hnw, hinj, hA0, hcl0, hN40⟩ := id F
  rcases st with _ | ⟨x0 | x0 | x0 | x0, _ | ⟨x1 | x1 | x1 | x1, st⟩⟩
  all_goals first | (cases h; done) | skip
  have k0 := hK _ _ _ _ h (low_i (low_t (low_t hw))) _ _ _ hl
  have e0 : Int32.ofInt (bus x1 x0) = _ := w_rt _
  exact lv_iushr hx hb hd e0.symm k0
theorem ss_idiv {mi pc : Nat} (hd : decode (mB mi) pc = .ok (.idiv, 1)) : SS mi pc (s_dvd idv) := by
  intro N p l e R s m args below meth c Q cells slots adr D cI cC cG A0 H0 σ0 C K r F hZ hC hK hR ls st σ lsA H locs h hw hl
  obtain ⟨hx, hb, hml, hown, hts, hKK, hfr, hlo, hce, hsl, hnw, hinj, hA0, hcl0, hN40⟩ := id F
  rcases st with _ | ⟨x0 | x0 | x0 | x0, _ | ⟨x1 | x1 | x1 | x1, st⟩⟩
  all_goals first | (cases h; done) | skip
  have h : (if wr x0 = 0 then none else K (pc + 1) ls (vI (idv x1 x0) :: st) σ) = some r := h
  by_cases c0 : wr x0 = 0
  · rw [if_pos c0] at h; cases h
  rw [if_neg c0] at h
  have k0 := hK _ _ _ _ h (low_i (low_t (low_t hw))) _ _ _ hl
  have e0 : Int32.ofInt (idv x1 x0) = _ := w_rt _
  refine lv_idiv hx hb hd (fun z => c0 ((w_eq0 _).mp z)) ?_
  rw [← e0]
  exact k0
theorem ss_irem {mi pc : Nat} (hd : decode (mB mi) pc = .ok (.irem, 1)) : SS mi pc (s_dvd irm) := by
  intro N p l e R s m args below meth c Q cells slots adr D cI cC cG A0 H0 σ0 C K r F hZ hC hK hR ls st σ lsA H locs h hw hl
  obtain ⟨hx, hb, hml, hown, hts, hKK, hfr, hlo, hce, hsl, hnw, hinj, hA0, hcl0, hN40⟩ := id F
  rcases st with _ | ⟨x0 | x0 | x0 | x0, _ | ⟨x1 | x1 | x1 | x1, st⟩⟩
  all_goals first | (cases h; done) | skip
  have h : (if wr x0 = 0 then none else K (pc + 1) ls (vI (irm x1 x0) :: st) σ) = some r := h
  by_cases c0 : wr x0 = 0
  · rw [if_pos c0] at h; cases h
  rw [if_neg c0] at h
  have k0 := hK _ _ _ _ h (low_i (low_t (low_t hw))) _ _ _ hl
  have e0 : Int32.ofInt (irm x1 x0) = _ := w_rt _
  refine lv_irem hx hb hd (fun z => c0 ((w_eq0 _).mp z)) ?_
  rw [← e0]
  exact k0
theorem ss_ladd {mi pc : Nat} (hd : decode (mB mi) pc = .ok (.ladd, 1)) : SS mi pc (s_lbin iAd) := by
  intro N p l e R s m args below meth c Q cells slots adr D cI cC cG A0 H0 σ0 C K r F hZ hC hK hR ls st σ lsA H locs h hw hl
  obtain ⟨hx, hb, hml, hown, hts, hKK, hfr, hlo, hce, hsl, hnw, hinj, hA0, hcl0, hN40⟩ := id F
  rcases st with _ | ⟨x0 | x0 | x0 | x0, _ | ⟨x1 | x1 | x1 | x1, st⟩⟩
  all_goals first | (cases h; done) | skip
  have k0 := hK _ _ _ _ h (low_l (low_t (low_t hw))) _ _ _ hl
  have e0 : Int64.ofInt (iAd x1 x0) = _ := Int64.ofInt_add x1 x0
  refine lv_ladd hx hb hd ?_
  rw [← e0]
  exact k0
theorem ss_lmul {mi pc : Nat} (hd : decode (mB mi) pc = .ok (.lmul, 1)) : SS mi pc (s_lbin iMu) := by
  intro N p l e R s m args below meth c Q cells slots adr D cI cC cG A0 H0 σ0 C K r F hZ hC hK hR ls st σ lsA H locs h hw hl
  obtain ⟨hx, hb, hml, hown, hts, hKK, hfr, hlo, hce, hsl, hnw, hinj, hA0, hcl0, hN40⟩ := id F
  rcases st with _ | ⟨x0 | x0 | x0 | x0, _ | ⟨x1 | x1 | x1 | x1, st⟩⟩
  all_goals first | (cases h; done) | skip
  have k0 := hK _ _ _ _ h (low_l (low_t (low_t hw))) _ _ _ hl
  have e0 : Int64.ofInt (iMu x1 x0) = _ := Int64.ofInt_mul x1 x0
  refine lv_lmul hx hb hd ?_
  rw [← e0]
  exact k0
theorem ss_ldiv {mi pc : Nat} (hd : decode (mB mi) pc = .ok (.ldiv, 1)) : SS mi pc (s_ldvd ldv) := by
  intro N p l e R s m args below meth c Q cells slots adr D cI cC cG A0 H0 σ0 C K r F hZ hC hK hR ls st σ lsA H locs h hw hl
  obtain ⟨hx, hb, hml, hown, hts, hKK, hfr, hlo, hce, hsl, hnw, hinj, hA0, hcl0, hN40⟩ := id F
  rcases st with _ | ⟨x0 | x0 | x0 | x0, _ | ⟨x1 | x1 | x1 | x1, st⟩⟩
  all_goals first | (cases h; done) | skip
  have h : (if wl x0 = 0 then none else K (pc + 1) ls (vL (ldv x1 x0) :: st) σ) = some r := h
  by_cases c0 : wl x0 = 0
  · rw [if_pos c0] at h; cases h
  rw [if_neg c0] at h
  have k0 := hK _ _ _ _ h (low_l (low_t (low_t hw))) _ _ _ hl
  have e0 : Int64.ofInt (ldv x1 x0) = _ := w_rtL _
  refine lv_ldiv hx hb hd (fun z => c0 (by unfold wl; rw [z]; rfl)) ?_
  rw [← e0]
  exact k0
theorem ss_lrem {mi pc : Nat} (hd : decode (mB mi) pc = .ok (.lrem, 1)) : SS mi pc (s_ldvd lrm) := by
  intro N p l e R s m args below meth c Q cells slots adr D cI cC cG A0 H0 σ0 C K r F hZ hC hK hR ls st σ lsA H locs h hw hl
  obtain ⟨hx, hb, hml, hown, hts, hKK, hfr, hlo, hce, hsl, hnw, hinj, hA0, hcl0, hN40⟩ := id F
  rcases st with _ | ⟨x0 | x0 | x0 | x0, _ | ⟨x1 | x1 | x1 | x1, st⟩⟩
  all_goals first | (cases h; done) | skip
  have h : (if wl x0 = 0 then none else K (pc + 1) ls (vL (lrm x1 x0) :: st) σ) = some r := h
  by_cases c0 : wl x0 = 0
  · rw [if_pos c0] at h; cases h
  rw [if_neg c0] at h
  have k0 := hK _ _ _ _ h (low_l (low_t (low_t hw))) _ _ _ hl
  have e0 : Int64.ofInt (lrm x1 x0) = _ := w_rtL _
  refine lv_lrem hx hb hd (fun z => c0 (by unfold wl; rw [z]; rfl)) ?_
  rw [← e0]
  exact k0
theorem ss_i2l {mi pc : Nat} (hd : decode (mB mi) pc = .ok (.i2l, 1)) : SS mi pc (s_i2l) := by
  intro N p l e R s m args below meth c Q cells slots adr D cI cC cG A0 H0 σ0 C K r F hZ hC hK hR ls st σ lsA H locs h hw hl
  obtain ⟨hx, hb, hml, hown, hts, hKK, hfr, hlo, hce, hsl, hnw, hinj, hA0, hcl0, hN40⟩ := id F
  rcases st with _ | ⟨x0 | x0 | x0 | x0, st⟩
  all_goals first | (cases h; done) | skip
  refine lv_i2l hx hb hd (v := Int64.ofInt (wr x0)) ?_ (hK _ _ _ _ h (low_l (low_t hw)) _ _ _ hl)
  unfold wr
  first | rfl | exact (Int64.ofInt_int32ToInt _).symm
theorem ss_l2i {mi pc : Nat} (hd : decode (mB mi) pc = .ok (.l2i, 1)) : SS mi pc (s_l2i) := by
  intro N p l e R s m args below meth c Q cells slots adr D cI cC cG A0 H0 σ0 C K r F hZ hC hK hR ls st σ lsA H locs h hw hl
  obtain ⟨hx, hb, hml, hown, hts, hKK, hfr, hlo, hce, hsl, hnw, hinj, hA0, hcl0, hN40⟩ := id F
  rcases st with _ | ⟨x0 | x0 | x0 | x0, st⟩
  all_goals first | (cases h; done) | skip
  refine lv_l2i hx hb hd (v := Int32.ofInt x0) ?_ (hK _ _ _ _ h (low_i (low_t hw)) _ _ _ hl)
  first | exact Int64.toInt32_ofInt x0 | simp
theorem ss_i2c {mi pc : Nat} (hd : decode (mB mi) pc = .ok (.i2c, 1)) : SS mi pc (s_i2c) := by
  intro N p l e R s m args below meth c Q cells slots adr D cI cC cG A0 H0 σ0 C K r F hZ hC hK hR ls st σ lsA H locs h hw hl
  obtain ⟨hx, hb, hml, hown, hts, hKK, hfr, hlo, hce, hsl, hnw, hinj, hA0, hcl0, hN40⟩ := id F
  rcases st with _ | ⟨x0 | x0 | x0 | x0, st⟩
  all_goals first | (cases h; done) | skip
  refine lv_i2c hx hb hd (v := Int32.ofInt (x0 % 65536)) ?_ (hK _ _ _ _ h (low_i (low_t hw)) _ _ _ hl)
  exact w_i2c x0
theorem ss_dup {mi pc : Nat} (hd : decode (mB mi) pc = .ok (.dup, 1)) : SS mi pc s_dup := by
  intro N p l e R s m args below meth c Q cells slots adr D cI cC cG A0 H0 σ0 C K r F hZ hC hK hR ls st σ lsA H locs h hw hl
  obtain ⟨hx, hb, hml, hown, hts, hKK, hfr, hlo, hce, hsl, hnw, hinj, hA0, hcl0, hN40⟩ := id F
  rcases st with _ | ⟨x0 | x0 | x0 | x0, st⟩
  all_goals first | (cases h; done) | skip
  · exact lv_dup hx hb hd rfl (hK _ _ _ _ h (low_c (low_h hw) hw) _ _ _ hl)
  · exact lv_dup hx hb hd rfl (hK _ _ _ _ h (low_c (low_h hw) hw) _ _ _ hl)
theorem ss_dup2 {mi pc : Nat} (hd : decode (mB mi) pc = .ok (.dup2, 1)) : SS mi pc (s_dup2) := by
  intro N p l e R s m args below meth c Q cells slots adr D cI cC cG A0 H0 σ0 C K r F hZ hC hK hR ls st σ lsA H locs h hw hl
  obtain ⟨hx, hb, hml, hown, hts, hKK, hfr, hlo, hce, hsl, hnw, hinj, hA0, hcl0, hN40⟩ := id F
  rcases st with _ | ⟨x0 | x0 | x0 | x0, _ | ⟨x1 | x1 | x1 | x1, st⟩⟩
  all_goals first | (cases h; done) | skip
  exact lv_dup2_11 hx hb hd rfl rfl (hK _ _ _ _ h (low_c (low_h hw) (low_c (low_h (low_t hw)) hw)) _ _ _ hl)
theorem ss_pop {mi pc : Nat} (hd : decode (mB mi) pc = .ok (.pop, 1)) : SS mi pc (s_pop) := by
  intro N p l e R s m args below meth c Q cells slots adr D cI cC cG A0 H0 σ0 C K r F hZ hC hK hR ls st σ lsA H locs h hw hl
  obtain ⟨hx, hb, hml, hown, hts, hKK, hfr, hlo, hce, hsl, hnw, hinj, hA0, hcl0, hN40⟩ := id F
  rcases st with _ | ⟨x0 | x0 | x0 | x0, st⟩
  all_goals first | (cases h; done) | skip
  exact lv_pop hx hb hd rfl (hK _ _ _ _ h (low_t hw) _ _ _ hl)
theorem ss_goto {mi pc t : Nat} {off : Int} (hd : decode (mB mi) pc = .ok (.goto off, 3)) (ht : (pc : Int) + off = (t : Int)) : SS mi pc (s_goto t) := by
  intro N p l e R s m args below meth c Q cells slots adr D cI cC cG A0 H0 σ0 C K r F hZ hC hK hR ls st σ lsA H locs h hw hl
  obtain ⟨hx, hb, hml, hown, hts, hKK, hfr, hlo, hce, hsl, hnw, hinj, hA0, hcl0, hN40⟩ := id F
  exact lv_goto hx hb hd ht (hK _ _ _ _ h hw _ _ _ hl)
theorem ss_ifeq {mi pc t : Nat} {off : Int} (hd : decode (mB mi) pc = .ok (.ifCond .eq off, 3)) (ht : (pc : Int) + off = (t : Int)) : SS mi pc (s_ifeq t) := by
  intro N p l e R s m args below meth c Q cells slots adr D cI cC cG A0 H0 σ0 C K r F hZ hC hK hR ls st σ lsA H locs h hw hl
  obtain ⟨hx, hb, hml, hown, hts, hKK, hfr, hlo, hce, hsl, hnw, hinj, hA0, hcl0, hN40⟩ := id F
  rcases st with _ | ⟨x0 | x0 | x0 | x0, st⟩
  all_goals first | (cases h; done) | skip
  have h : (if wr x0 = 0 then K t ls st σ else K (pc + 3) ls st σ) = some r := h
  exact lv_if_eq hx hb hd ht (fun z => by rw [if_pos ((w_eq0 x0).mp z)] at h; exact hK _ _ _ _ h (low_t hw) _ _ _ hl) (fun z => by rw [if_neg (fun y => z ((w_eq0 x0).mpr y))] at h; exact hK _ _ _ _ h (low_t hw) _ _ _ hl)
theorem ss_ifne {mi pc t : Nat} {off : Int} (hd : decode (mB mi) pc = .ok (.ifCond .ne off, 3)) (ht : (pc : Int) + off = (t : Int)) : SS mi pc (s_ifne t) := by
  intro N p l e R s m args below meth c Q cells slots adr D cI cC cG A0 H0 σ0 C K r F hZ hC hK hR ls st σ lsA H locs h hw hl
  obtain ⟨hx, hb, hml, hown, hts, hKK, hfr, hlo, hce, hsl, hnw, hinj, hA0, hcl0, hN40⟩ := id F
  rcases st with _ | ⟨x0 | x0 | x0 | x0, st⟩
  all_goals first | (cases h; done) | skip
  have h : (if wr x0 = 0 then K (pc + 3) ls st σ else K t ls st σ) = some r := h
  exact lv_if_ne hx hb hd ht (fun z => by rw [if_neg (fun y => z ((w_eq0 x0).mpr y))] at h; exact hK _ _ _ _ h (low_t hw) _ _ _ hl) (fun z => by rw [if_pos ((w_eq0 x0).mp z)] at h; exact hK _ _ _ _ h (low_t hw) _ _ _ hl)
theorem ss_iflt {mi pc t : Nat} {off : Int} (hd : decode (mB mi) pc = .ok (.ifCond .lt off, 3)) (ht : (pc : Int) + off = (t : Int)) : SS mi pc (s_iflt t) := by
  intro N p l e R s m args below meth c Q cells slots adr D cI cC cG A0 H0 σ0 C K r F hZ hC hK hR ls st σ lsA H locs h hw hl
  obtain ⟨hx, hb, hml, hown, hts, hKK, hfr, hlo, hce, hsl, hnw, hinj, hA0, hcl0, hN40⟩ := id F
  rcases st with _ | ⟨x0 | x0 | x0 | x0, st⟩
  all_goals first | (cases h; done) | skip
  have h : (if wr x0 < 0 then K t ls st σ else K (pc + 3) ls st σ) = some r := h
  exact lv_if_lt hx hb hd ht (fun z => by rw [if_pos ((w_lt0 x0).mp z)] at h; exact hK _ _ _ _ h (low_t hw) _ _ _ hl) (fun z => by rw [if_neg (fun y => z ((w_lt0 x0).mpr y))] at h; exact hK _ _ _ _ h (low_t hw) _ _ _ hl)
theorem ss_ifge {mi pc t : Nat} {off : Int} (hd : decode (mB mi) pc = .ok (.ifCond .ge off, 3)) (ht : (pc : Int) + off = (t : Int)) : SS mi pc (s_ifge t) := by
  intro N p l e R s m args below meth c Q cells slots adr D cI cC cG A0 H0 σ0 C K r F hZ hC hK hR ls st σ lsA H locs h hw hl
  obtain ⟨hx, hb, hml, hown, hts, hKK, hfr, hlo, hce, hsl, hnw, hinj, hA0, hcl0, hN40⟩ := id F
  rcases st with _ | ⟨x0 | x0 | x0 | x0, st⟩
  all_goals first | (cases h; done) | skip
  have h : (if wr x0 < 0 then K (pc + 3) ls st σ else K t ls st σ) = some r := h
  exact lv_if_ge hx hb hd ht (fun z => by rw [if_neg ((w_0le x0).mp z)] at h; exact hK _ _ _ _ h (low_t hw) _ _ _ hl) (fun z => by rw [if_pos (Decidable.byContradiction fun y => z ((w_0le x0).mpr y))] at h; exact hK _ _ _ _ h (low_t hw) _ _ _ hl)
theorem ss_ifgt {mi pc t : Nat} {off : Int} (hd : decode (mB mi) pc = .ok (.ifCond .gt off, 3)) (ht : (pc : Int) + off = (t : Int)) : SS mi pc (s_ifgt t) := by
  intro N p l e R s m args below meth c Q cells slots adr D cI cC cG A0 H0 σ0 C K r F hZ hC hK hR ls st σ lsA H locs h hw hl
  obtain ⟨hx, hb, hml, hown, hts, hKK, hfr, hlo, hce, hsl, hnw, hinj, hA0, hcl0, hN40⟩ := id F
  rcases st with _ | ⟨x0 | x0 | x0 | x0, st⟩
  all_goals first | (cases h; done) | skip
  have h : (if 0 < wr x0 then K t ls st σ else K (pc + 3) ls st σ) = some r := h
  exact lv_if_gt hx hb hd ht (fun z => by rw [if_pos ((w_0lt x0).mp z)] at h; exact hK _ _ _ _ h (low_t hw) _ _ _ hl) (fun z => by rw [if_neg (fun y => z ((w_0lt x0).mpr y))] at h; exact hK _ _ _ _ h (low_t hw) _ _ _ hl)
theorem ss_ifle {mi pc t : Nat} {off : Int} (hd : decode (mB mi) pc = .ok (.ifCond .le off, 3)) (ht : (pc : Int) + off = (t : Int)) : SS mi pc (s_ifle t) := by
  intro N p l e R s m args below meth c Q cells slots adr D cI cC cG A0 H0 σ0 C K r F hZ hC hK hR ls st σ lsA H locs h hw hl
  obtain ⟨hx, hb, hml, hown, hts, hKK, hfr, hlo, hce, hsl, hnw, hinj, hA0, hcl0, hN40⟩ := id F
  rcases st with _ | ⟨x0 | x0 | x0 | x0, st⟩
  all_goals first | (cases h; done) | skip
  have h : (if 0 < wr x0 then K (pc + 3) ls st σ else K t ls st σ) = some r := h
  exact lv_if_le hx hb hd ht (fun z => by rw [if_neg ((w_le0 x0).mp z)] at h; exact hK _ _ _ _ h (low_t hw) _ _ _ hl) (fun z => by rw [if_pos (Decidable.byContradiction fun y => z ((w_le0 x0).mpr y))] at h; exact hK _ _ _ _ h (low_t hw) _ _ _ hl)
theorem ss_iceq {mi pc t : Nat} {off : Int} (hd : decode (mB mi) pc = .ok (.if_icmp .eq off, 3)) (ht : (pc : Int) + off = (t : Int)) : SS mi pc (s_iceq t) := by
  intro N p l e R s m args below meth c Q cells slots adr D cI cC cG A0 H0 σ0 C K r F hZ hC hK hR ls st σ lsA H locs h hw hl
  obtain ⟨hx, hb, hml, hown, hts, hKK, hfr, hlo, hce, hsl, hnw, hinj, hA0, hcl0, hN40⟩ := id F
  rcases st with _ | ⟨x0 | x0 | x0 | x0, _ | ⟨x1 | x1 | x1 | x1, st⟩⟩
  all_goals first | (cases h; done) | skip
  have h : (if wr x1 = wr x0 then K t ls st σ else K (pc + 3) ls st σ) = some r := h
  exact lv_icmp_eq hx hb hd ht (fun z => by rw [if_pos ((w_eq x1 x0).mp z)] at h; exact hK _ _ _ _ h (low_t (low_t hw)) _ _ _ hl) (fun z => by rw [if_neg (fun y => z ((w_eq x1 x0).mpr y))] at h; exact hK _ _ _ _ h (low_t (low_t hw)) _ _ _ hl)
theorem ss_icne {mi pc t : Nat} {off : Int} (hd : decode (mB mi) pc = .ok (.if_icmp .ne off, 3)) (ht : (pc : Int) + off = (t : Int)) : SS mi pc (s_icne t) := by
  intro N p l e R s m args below meth c Q cells slots adr D cI cC cG A0 H0 σ0 C K r F hZ hC hK hR ls st σ lsA H locs h hw hl
  obtain ⟨hx, hb, hml, hown, hts, hKK, hfr, hlo, hce, hsl, hnw, hinj, hA0, hcl0, hN40⟩ := id F
  rcases st with _ | ⟨x0 | x0 | x0 | x0, _ | ⟨x1 | x1 | x1 | x1, st⟩⟩
  all_goals first | (cases h; done) | skip
  have h : (if wr x1 = wr x0 then K (pc + 3) ls st σ else K t ls st σ) = some r := h
  exact lv_icmp_ne hx hb hd ht (fun z => by rw [if_neg (fun y => z ((w_eq x1 x0).mpr y))] at h; exact hK _ _ _ _ h (low_t (low_t hw)) _ _ _ hl) (fun z => by rw [if_pos ((w_eq x1 x0).mp z)] at h; exact hK _ _ _ _ h (low_t (low_t hw)) _ _ _ hl)
theorem ss_iclt {mi pc t : Nat} {off : Int} (hd : decode (mB mi) pc = .ok (.if_icmp .lt off, 3)) (ht : (pc : Int) + off = (t : Int)) : SS mi pc (s_iclt t) := by
  intro N p l e R s m args below meth c Q cells slots adr D cI cC cG A0 H0 σ0 C K r F hZ hC hK hR ls st σ lsA H locs h hw hl
  obtain ⟨hx, hb, hml, hown, hts, hKK, hfr, hlo, hce, hsl, hnw, hinj, hA0, hcl0, hN40⟩ := id F
  rcases st with _ | ⟨x0 | x0 | x0 | x0, _ | ⟨x1 | x1 | x1 | x1, st⟩⟩
  all_goals first | (cases h; done) | skip
  have h : (if wr x1 < wr x0 then K t ls st σ else K (pc + 3) ls st σ) = some r := h
  exact lv_icmp_lt hx hb hd ht (fun z => by rw [if_pos ((w_lt x1 x0).mp z)] at h; exact hK _ _ _ _ h (low_t (low_t hw)) _ _ _ hl) (fun z => by rw [if_neg (fun y => z ((w_lt x1 x0).mpr y))] at h; exact hK _ _ _ _ h (low_t (low_t hw)) _ _ _ hl)
theorem ss_icge {mi pc t : Nat} {off : Int} (hd : decode (mB mi) pc = .ok (.if_icmp .ge off, 3)) (ht : (pc : Int) + off = (t : Int)) : SS mi pc (s_icge t) := by
  intro N p l e R s m args below meth c Q cells slots adr D cI cC cG A0 H0 σ0 C K r F hZ hC hK hR ls st σ lsA H locs h hw hl
  obtain ⟨hx, hb, hml, hown, hts, hKK, hfr, hlo, hce, hsl, hnw, hinj, hA0, hcl0, hN40⟩ := id F
  rcases st with _ | ⟨x0 | x0 | x0 | x0, _ | ⟨x1 | x1 | x1 | x1, st⟩⟩
  all_goals first | (cases h; done) | skip
  have h : (if wr x1 < wr x0 then K (pc + 3) ls st σ else K t ls st σ) = some r := h
  exact lv_icmp_ge hx hb hd ht (fun z => by rw [if_neg (((w_le x0 x1).trans Int.not_lt.symm).mp z)] at h; exact hK _ _ _ _ h (low_t (low_t hw)) _ _ _ hl) (fun z => by rw [if_pos (Decidable.byContradiction fun y => z (((w_le x0 x1).trans Int.not_lt.symm).mpr y))] at h; exact hK _ _ _ _ h (low_t (low_t hw)) _ _ _ hl)
theorem ss_icgt {mi pc t : Nat} {off : Int} (hd : decode (mB mi) pc = .ok (.if_icmp .gt off, 3)) (ht : (pc : Int) + off = (t : Int)) : SS mi pc (s_icgt t) := by
  intro N p l e R s m args below meth c Q cells slots adr D cI cC cG A0 H0 σ0 C K r F hZ hC hK hR ls st σ lsA H locs h hw hl
  obtain ⟨hx, hb, hml, hown, hts, hKK, hfr, hlo, hce, hsl, hnw, hinj, hA0, hcl0, hN40⟩ := id F
  rcases st with _ | ⟨x0 | x0 | x0 | x0, _ | ⟨x1 | x1 | x1 | x1, st⟩⟩
  all_goals first | (cases h; done) | skip
  have h : (if wr x0 < wr x1 then K t ls st σ else K (pc + 3) ls st σ) = some r := h
  exact lv_icmp_gt hx hb hd ht (fun z => by rw [if_pos ((w_lt x0 x1).mp z)] at h; exact hK _ _ _ _ h (low_t (low_t hw)) _ _ _ hl) (fun z => by rw [if_neg (fun y => z ((w_lt x0 x1).mpr y))] at h; exact hK _ _ _ _ h (low_t (low_t hw)) _ _ _ hl)
theorem ss_icle {mi pc t : Nat} {off : Int} (hd : decode (mB mi) pc = .ok (.if_icmp .le off, 3)) (ht : (pc : Int) + off = (t : Int)) : SS mi pc (s_icle t) := by
  intro N p l e R s m args below meth c Q cells slots adr D cI cC cG A0 H0 σ0 C K r F hZ hC hK hR ls st σ lsA H locs h hw hl
  obtain ⟨hx, hb, hml, hown, hts, hKK, hfr, hlo, hce, hsl, hnw, hinj, hA0, hcl0, hN40⟩ := id F
  rcases st with _ | ⟨x0 | x0 | x0 | x0, _ | ⟨x1 | x1 | x1 | x1, st⟩⟩
  all_goals first | (cases h; done) | skip
  have h : (if wr x0 < wr x1 then K (pc + 3) ls st σ else K t ls st σ) = some r := h
  exact lv_icmp_le hx hb hd ht (fun z => by rw [if_neg (((w_le x1 x0).trans Int.not_lt.symm).mp z)] at h; exact hK _ _ _ _ h (low_t (low_t hw)) _ _ _ hl) (fun z => by rw [if_pos (Decidable.byContradiction fun y => z (((w_le x1 x0).trans Int.not_lt.symm).mpr y))] at h; exact hK _ _ _ _ h (low_t (low_t hw)) _ _ _ hl)
