-- begun with the kit's SKELETON
/-! THE CLAIM OUT OF ONE WALK OF THE LAW'S BODY. Your part is whole_start (and what it stands on); all else here is the same for every law, but numbers. -/
def R_law : String := "SecondOboeLaw"
def lw_P (b : Addr) (xs : List Int32) (args : Array Value) (s : State) : Prop := args = #[.ref b] ∧ s.IntsAt b xs ∧ xs.length ≤ 256 ∧ (Jvm.Cond.and given_1 narrow_1).before args s = true
def lw_Q (_ : Array Value) (s : State) (o : Outcome) (t : State) : Prop := o = .returned (some (.int 1)) ∧ Framed s o t [] 600000 7302250
def lw_Z (below : List Frame) (a : Array Value) (s : State) : State → Prop := fun t => ∃ o, t.status = .running ∧ Ended t below o ∧ lw_Q a s o t
/-- the law's own end, with 1 on the stack, nothing written that was there before, its room as the claim has it -/
theorem lw_ret {p : Program} {l : Launch} {e : Env} {s : State} {m : MethodId} {below : List Frame} {meth : Method} {c : Code} {b : Nat} (hx : p.tables.exec = Jvm.exec) (hb : c.code = code) (hr : meth.sig.returnType = ret) (hlocks : meth.locks = false) {pc : Nat} {H : Heap} {ls : Array Slot} (hdg : decode code pc = .ok (.ireturn, 1)) : W p l e room_1 s m #[Value.ref b] below meth c H [] 600000 7302250 (lw_Z below #[Value.ref b] s) (F0 m pc ls [.int 1]) := by
  intro T hT X
  obtain ⟨fs, hret, hrun, hended, hW, hframe⟩ := X.leave (v := some (.int 1)) (hlocks := hlocks) (fun h => by rw [hr] at h; cases h)
  have hmeth' : T.vm.method? m = some meth := X.method'
  refine ⟨T.setFrames fs, ?_, .returned (some (.int 1)), hrun, hended, rfl, ⟨_, rfl⟩, hW, hframe⟩
  jvm_step X.here [X.here.top, hx, hb, hdg, hmeth', hr, ret, narrow_b1]
  (try refine ⟨rfl, ?_⟩); (try refine ⟨rfl, ?_⟩)
  first | (intro acts; rw [hret _ acts rfl rfl rfl]) | rw [hret _ _ rfl rfl rfl]
  exact Steps.refl _
/-- what holds at the law's entry: the machine, the code, the tables' words (any of lw_tbl by 'hts w (by decide +kernel)'), the script of L ints xs at the cell b, what the Statement gives of the start (any of its parts by flat_of_before) -/
def lw_At (p : Program) (s : State) (m : MethodId) (meth : Method) (c : Code) (b L : Nat) (xs : Nat → Int32) : Prop :=
  p.tables.exec = Jvm.exec ∧ c.code = code ∧ meth.sig.returnType = ret ∧ c.maxLocals = 4 ∧ s.vm.findClass R_law = some m.cls ∧ (∀ w ∈ lw_tbl, w.before #[Value.ref b] s = true) ∧ va_X b L xs s s.heap ∧ b < s.heap.size ∧ meth.locks = false ∧ (Jvm.Cond.and given_1 narrow_1).before #[Value.ref b] s = true
def stB : List Int32 := strL.map Int32.ofInt
abbrev tmS : Nat → Term := fun _ => .string "SecondOboe" 67
theorem fl_e : ∀ j, j < 67 → (Cond.eq (.elem (.field (.string "SecondOboe" 67) "java/lang/String" "value" "[B") (.int (Int32.ofNat j))) (.int (stB.getD j 0))) ∈ flatC (Jvm.Cond.and given_1 narrow_1) := by decide +kernel
theorem stB_at : ∀ j, j < 67 → stB.getD j 0 = Int32.ofInt (strL.getD j 0) := by decide +kernel
theorem ArrOfT.ofc {s : State} {c : ClassId} {k : Class} {comp : ClassId} {t : FieldType} (h2 : s.vm.classes[c]? = some k) (h3 : k.kind = .array comp t) : ArrOfT s c t := fun n z => ⟨fun k h => (by cases h), k, h2, comp, h3⟩
/-- what stands at the law's entry: the text -/
theorem st_text {s : State} {args : Array Value} {A : Nat → Prop} (hts : ∀ w ∈ lw_tbl, w.before args s = true) (hgv : (Jvm.Cond.and given_1 narrow_1).before args s = true) (hA : ∀ a : Nat, a < s.heap.size → ¬ A a) : ∃ aS aV : Nat, StF aS aV A s s.heap ∧ vk_R RX4 67 "i0,0,2;i1,2,5;i2,0,3;i3,3,4;i1,0,6;b15,1;b5,1;b14,0;b11,1;s2;s0;g2;" aS s := by
  have hs := flat_of_before _ hgv
  obtain ⟨adK, adV, hS, hev⟩ := vk_Sof (args := args) (s := s) (N := 1) (tm := tmS) (len := [67]) (byt := [stB]) (A := A) (fun i hi => by rw [show i = 0 by omega]; decide) (fun i hi => hs _ (by decide +kernel : Cond.exactly (.string "SecondOboe" 67) "java/lang/String" ∈ flatC (Jvm.Cond.and given_1 narrow_1))) (fun i hi => hs _ (by decide +kernel : Cond.eq (.field (.string "SecondOboe" 67) "java/lang/String" "coder" "B") (.int 0) ∈ flatC (Jvm.Cond.and given_1 narrow_1)))
    (fun i hi => hs _ (by decide +kernel : Cond.arrayOf (.field (.string "SecondOboe" 67) "java/lang/String" "value" "[B") .byte ∈ flatC (Jvm.Cond.and given_1 narrow_1))) (fun i hi => by rw [show i = 0 by omega]; exact hs _ (by decide +kernel : Cond.eq (.length (.field (.string "SecondOboe" 67) "java/lang/String" "value" "[B")) (.int 67) ∈ flatC (Jvm.Cond.and given_1 narrow_1)))
    (fun i hi j hj => by
      have h0 : i = 0 := by omega
      subst h0
      exact hs _ (fl_e j hj)) (fun i j hi hj hij => by omega) hA
  obtain ⟨h1, h2, h3, h4⟩ := hS.1 0 (by decide)
  refine ⟨adK 0, adV 0, ⟨h1, h2, h3, ?_, va_Zof (hts (.laysStatic "java/lang/String" "COMPACT_STRINGS" "Z") (List.mem_append_right _ (List.mem_of_getElem? (i := 185) (by decide +kernel)))) (hts _ (List.mem_filter.mp we_6).1) (va_eqi (hs _ (by decide +kernel))) hA, va_Zqof (hts (.laysStatic "jdk/internal/util/Preconditions" "SIOOBE_FORMATTER" "Ljava/util/function/BiFunction;") (List.mem_append_right _ (List.mem_of_getElem? (i := 201) (by decide +kernel)))) (hts _ (List.mem_filter.mp we_11).1) (hs _ (by decide +kernel)) hA⟩, vk_R.of (hts (.stringRef "SecondOboe" 67 "i0,0,2;i1,2,5;i2,0,3;i3,3,4;i1,0,6;b15,1;b5,1;b14,0;b11,1;s2;s0;g2;") (List.mem_append_right _ (List.mem_of_getElem? (i := 175) (by decide +kernel)))) (hev 0 (by decide))⟩
  obtain ⟨cell, t1, t2, t3, t4, t5, t6, t7⟩ := h4
  exact ⟨cell, t1, t2, t3, t4, t5, fun j hj => (t6 j hj).trans (by show some (Value.int (stB.getD j 0)) = _; rw [stB_at j hj]), t7⟩
theorem st_nest {s : State} {args : Array Value} (hts : ∀ w ∈ lw_tbl, w.before args s = true) : NsW s := fun w hw => by
  simp only [nestL, List.mem_cons, List.not_mem_nil, or_false] at hw
  rcases hw with rfl | rfl | rfl | rfl | rfl | rfl | rfl
  · exact va_Nw.of rfl (hts _ (List.mem_append_right _ (List.mem_of_getElem? (i := 25) (by decide +kernel))))
  · exact va_Nw.of rfl (hts _ (List.mem_append_right _ (List.mem_of_getElem? (i := 31) (by decide +kernel))))
  · exact va_Nw.of rfl (hts _ (List.mem_append_right _ (List.mem_of_getElem? (i := 96) (by decide +kernel))))
  · exact va_Nw.of rfl (hts _ (List.mem_append_right _ (List.mem_of_getElem? (i := 99) (by decide +kernel))))
  · exact va_Nw.of rfl (hts _ (List.mem_append_right _ (List.mem_of_getElem? (i := 125) (by decide +kernel))))
  · exact va_Nw.of rfl (hts _ (List.mem_append_right _ (List.mem_of_getElem? (i := 130) (by decide +kernel))))
  · exact va_Nw.of rfl (hts _ (List.mem_append_right _ (List.mem_of_getElem? (i := 500) (by decide +kernel))))
theorem st_known {s : State} {args : Array Value} (hts : ∀ w ∈ lw_tbl, w.before args s = true) : ∃ (D : va_G) (cI cC cG : ClassId), va_K D vwCl (tys3 cI cC cG) s ∧ AoI s := by
  have htg : ∀ w ∈ gwl, w.before args s = true := fun w hw => hts w (List.mem_filter.mp hw).1
  obtain ⟨c0, i0, hk0⟩ := u_known (C := RX0) (T := TX0) (N := 9) (n := 9) htg iw_X0 (htg _ we_31)
  obtain ⟨c1, i1, hk1⟩ := u_known (C := RX1) (T := TX1) (N := 4) (n := 4) htg iw_X1 (htg _ we_37)
  obtain ⟨c2, i2, hk2⟩ := u_known (C := RX2) (T := TX2) (N := 4) (n := 4) htg iw_X2 (htg _ we_42)
  obtain ⟨c3, i3, hk3⟩ := u_known (C := RX3) (T := TX3) (N := 11) (n := 11) htg iw_X3 (htg _ we_48)
  obtain ⟨c4, i4, hk4⟩ := u_known (C := RX4) (T := TX4) (N := 17) (n := 17) htg iw_X4 (htg _ we_63)
  obtain ⟨c5, i5, hk5⟩ := u_known (C := RX5) (T := TX5) (N := 21) (n := 21) htg iw_X5 (htg _ we_64)
  obtain ⟨dC, dI, hKc⟩ : ∃ (dC : Nat → ClassId) (dI : Nat → Nat → Nat), ∀ (k : Nat) (q : vw_C), vwCl[k]? = some q → u_Kn s q.1 q.2.1 q.2.2 (dC k) (dI k) := by
    refine ⟨fun k => match k with | 0 => c0 | 1 => c1 | 2 => c2 | 3 => c3 | 4 => c4 | _ => c5, fun k => match k with | 0 => i0 | 1 => i1 | 2 => i2 | 3 => i3 | 4 => i4 | _ => i5, ?_⟩
    intro k q hq
    exact (match k, hq with
    | 0, hq => by cases hq; exact hk0
    | 1, hq => by cases hq; exact hk1
    | 2, hq => by cases hq; exact hk2
    | 3, hq => by cases hq; exact hk3
    | 4, hq => by cases hq; exact hk4
    | 5, hq => by cases hq; exact hk5
    | k + 6, hq => by simp [vwCl] at hq)
  have hO : (Cond.arrayOver (.array .int)).before args s = true := (hts (.arrayOver (.array .int)) (List.mem_append_right _ (List.mem_of_getElem? (i := 174) (by decide +kernel))))
  obtain ⟨cI, kI, pI, e1, e2, e3⟩ := Cond.arrayClass_spec (htg _ we_27)
  obtain ⟨cC, kC, pC, f1, f2, f3⟩ := Cond.arrayClass_spec (htg _ we_34)
  obtain ⟨pG, cG, kG, g1, g2, g3, g4, g5⟩ := Jvm.Stand.arrayOver_specB hO
  refine ⟨(dC, dI), cI, cC, cG, ⟨hKc, fun k q hq => ?_⟩, hO⟩
  exact (match k, hq with
    | 0, hq => by cases hq; exact ⟨ArrOfT.ofc e2 e3, e1⟩
    | 1, hq => by cases hq; exact ⟨ArrOfT.ofc f2 f3, f1⟩
    | 2, hq => by cases hq; exact ⟨ArrOfT.ofc g3 g4, g5⟩
    | k + 3, hq => by simp [tys3] at hq)
