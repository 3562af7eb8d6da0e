/-! WORDS; the String's members; rows for the constructors. Printed by wip/whole/gen12.py -/
def gW (y : MethodName) (c : ByteArray) (n : Nat) (r : Option FieldType) : List Cond := Cond.code y c n r :: gwl
theorem gW_in {y : MethodName} {c : ByteArray} {n : Nat} {r : Option FieldType} (h : Cond.code y c n r ∈ gwl) : GoodIn gwl (gW y c n r) := gw_good (ws := gW y c n r) (fun w hw => by
  rcases List.mem_cons.mp hw with rfl | hw
  · exact h
  · exact hw)
theorem gW_V {own C : String} {idx : Nat} {y : MethodName} {c : ByteArray} {n : Nat} {r : Option FieldType} (h1 : Cond.methodLink own idx y ∈ gwl) (h2 : Cond.instanceMethod y ∈ gwl) (h3 : Cond.selects C y y ∈ gwl) (h4 : Cond.initialized C ∈ gwl) (h : Cond.code y c n r ∈ gwl) : GoodIn gwl (wsV own idx C y (gW y c n r)) := fun w hw => by
  rcases List.mem_append.mp hw with hw | hw
  · refine gw_good (ws := [.methodLink own idx y, .instanceMethod y, .selects C y y, .initialized C]) (fun w hw8 => ?_) w hw
    simp only [List.mem_cons, List.not_mem_nil, or_false] at hw8
    rcases hw8 with rfl | rfl | rfl | rfl <;> assumption
  · exact gW_in h w hw
theorem gW_S {own : String} {idx : Nat} {y : MethodName} {c : ByteArray} {n : Nat} {r : Option FieldType} (h1 : Cond.methodLink own idx y ∈ gwl) (h2 : Cond.static y ∈ gwl) (h4 : Cond.initialized y.cls ∈ gwl) (h : Cond.code y c n r ∈ gwl) : GoodIn gwl (va_wsS own idx y (gW y c n r)) := fun w hw => by
  rcases List.mem_append.mp hw with hw | hw
  · refine gw_good (ws := [.methodLink own idx y, .static y, .initialized y.cls]) (fun w hw8 => ?_) w hw
    simp only [List.mem_cons, List.not_mem_nil, or_false] at hw8
    rcases hw8 with rfl | rfl | rfl <;> assumption
  · exact gW_in h w hw
abbrev nowA : Nat → Prop := fun _ => False
/-- the text that the first band is told by, and the statics that its members read -/
def StF (aS aV : Nat) (A : Nat → Prop) (U : State) (H : Heap) : Prop := va_O "java/lang/String" aS A U H ∧ va_OF "java/lang/String" "coder" "B" (.int 0) aS A U H ∧ va_OF "java/lang/String" "value" "[B" (.ref aV) aS A U H ∧ va_T .byte aV 67 (fun j => .int (Int32.ofInt (strL.getD j 0))) A U H ∧ va_Z "java/lang/String" "COMPACT_STRINGS" "Z" (.int 1) A U H ∧ va_Zq "jdk/internal/util/Preconditions" "SIOOBE_FORMATTER" "Ljava/util/function/BiFunction;" A U H
theorem StF.moved {aS aV : Nat} {A : Nat → Prop} {u U : State} {H : Heap} (hvm : u.vm.Alike U.vm) (h : StF aS aV A u H) : StF aS aV A U H := ⟨va_O.moved hvm h.1, va_OF.moved hvm h.2.1, va_OF.moved hvm h.2.2.1, va_T.moved hvm h.2.2.2.1, va_Z.moved hvm h.2.2.2.2.1, va_Zq.moved hvm h.2.2.2.2.2⟩
theorem StF.kept {aS aV : Nat} {A : Nat → Prop} {U : State} {H H1 : Heap} (h : StF aS aV A U H) (hq : ∀ a : Nat, a < H.size → ¬ A a → H1[a]? = H[a]?) : StF aS aV A U H1 := ⟨h.1.kept hq, h.2.1.kept hq, h.2.2.1.kept hq, h.2.2.2.1.kept hq, h.2.2.2.2.1.kept hq, h.2.2.2.2.2.kept hq⟩
theorem StF.narrow {aS aV : Nat} {A B : Nat → Prop} {U : State} {H : Heap} (h : StF aS aV A U H) (hAB : ∀ q, B q → A q) : StF aS aV B U H := ⟨h.1.narrow hAB, h.2.1.narrow hAB, h.2.2.1.narrow hAB, h.2.2.2.1.narrow hAB, h.2.2.2.2.1.narrow hAB, h.2.2.2.2.2.narrow hAB⟩
def StP (aS aV : Nat) (vs : List Value) : Array Value → State → Prop := va_Pc vs (fun U => StF aS aV nowA U U.heap)
theorem StP_blind {aS aV : Nat} {vs : List Value} : FrameBlind (StP aS aV vs) := fun a U g mk h => ⟨h.1, StF.moved (u := U) (U := U.calling g mk a) (Vm.Alike.refl U.vm) h.2⟩
def StQ (v : Option Value) : Array Value → State → Outcome → State → Prop := fun _ t0 oc t => oc = .returned v ∧ va_F nowA t0 t
section INA
variable {p : Program} {l : Launch} {e : Env} {R : Room} {s : State} {m : MethodId} {args : Array Value} {below : List Frame} {meth : Method} {c : Code} {H : Heap} {locs : List Loc} {cells slots : Nat} {Q : State → Prop}
variable {cc : ByteArray} {pc : Nat} {ls : Array Slot} {rest : List Value} {D : va_G} {A : Nat → Prop} {a : Nat} {ws : va_W} {H0 : Heap}
theorem in_after {v0 : Option Value} {st0 : List Value} {aa : Array Value} (hr : va_Run p l e R s m args below meth c H locs cells slots 0 0 (F0 m pc ls st0) rest (StQ v0 aa) nowA) (hS : va_S A H0 H locs)
    (kk : ∀ (H1 : Heap) (locs1 : List Loc), H.size ≤ H1.size → (∀ q : Nat, q < H.size → H1[q]? = H[q]?) → va_S A H0 H1 locs1 → W p l e R s m args below meth c H1 locs1 cells slots Q (F0 m (pc + 3) ls (v0.toList ++ rest))) : W p l e R s m args below meth c H locs cells slots Q (F0 m pc ls st0) := by
  intro T hT X
  obtain ⟨v, st₀, t, T', L, h0, X', hL, e1, e2, ⟨hv, hz, hk⟩, st⟩ := hr T hT X
  cases hv
  rw [h0] at hz hk
  obtain ⟨t2, a1, b1⟩ := kk T'.heap (locs ++ L) (by rw [e1]; exact hz) (fun q hq => by rw [e1]; exact hk q hq (fun z => z))
    ⟨Nat.le_trans hS.1 (by rw [e1]; exact hz), fun q h1 h2 => by rw [e1, hk q (Nat.lt_of_lt_of_le h1 hS.1) (fun z => z)]; exact hS.2.1 q h1 h2, fun q hq => by
      rcases List.mem_append.mp hq with h | h
      · exact hS.2.2 q h
      · exact absurd (hL q h) (fun z => z)⟩ T' rfl X'
  exact ⟨t2, st t2 a1, b1⟩
/-- new int[n]: the class of int rows is known -/
theorem in_newI {cI cC cG : ClassId} (hx : p.tables.exec = Jvm.exec) (hb : c.code = cc) (harr : (Cond.arrayClass .int).before args s = true) (hK : va_K D vwCl (tys3 cI cC cG) s) (hP : va_P D vwCl ws H) (hD : va_D A ws) (hS : va_S A H0 H locs) (hA : ∀ q, H0.size ≤ q → A q) {n : Int32} {N' : Nat} (hn : ¬ n < 0) (hN : n.toNatClampNeg = N') (hbytes : N' * 4 ≤ 536870912) (hcells : cells + 1 ≤ R.cells) (hslots : slots + N' ≤ R.slots) (hdg : decode cc pc = .ok (.newarray .int, 2))
    (kk : ∀ (q : Nat) (H1 : Heap), va_P D vwCl (ws ++ [(q, .inl (cI, N', .inl (fun _ => 0)))]) H1 → va_D A (ws ++ [(q, .inl (cI, N', .inl (fun _ => 0)))]) → va_S A H0 H1 locs → W p l e R s m args below meth c H1 locs (cells + 1) (slots + N') Q (F0 m (pc + 2) ls (.ref q :: rest))) : W p l e R s m args below meth c H locs cells slots Q (F0 m pc ls (.int n :: rest)) := by
  refine va_newa (atype := .int) (ty := .int) (a0 := (N', .inl (fun _ => 0))) hx hb harr rfl hK hP hD hS hA (fun cA => rfl) hn hN hbytes hcells hslots hdg (fun q1 cA H1 hK1 hP1 hD1 hS1 => ?_)
  have e1 : s.vm.findClass ("[" ++ FieldType.int.toString) = some cA := (hK1.2 3 (cA, .int) rfl).2
  have e0 : s.vm.findClass ("[" ++ FieldType.int.toString) = some cI := (hK.2 0 (cI, .int) rfl).2
  rw [e0] at e1
  cases e1
  exact kk q1 H1 hP1 hD1 hS1
theorem in_newC {cI cC cG : ClassId} (hx : p.tables.exec = Jvm.exec) (hb : c.code = cc) (harr : (Cond.arrayClass .char).before args s = true) (hK : va_K D vwCl (tys3 cI cC cG) s) (hP : va_P D vwCl ws H) (hD : va_D A ws) (hS : va_S A H0 H locs) (hA : ∀ q, H0.size ≤ q → A q) {n : Int32} {N' : Nat} (hn : ¬ n < 0) (hN : n.toNatClampNeg = N') (hbytes : N' * 2 ≤ 536870912) (hcells : cells + 1 ≤ R.cells) (hslots : slots + N' ≤ R.slots) (hdg : decode cc pc = .ok (.newarray .char, 2))
    (kk : ∀ (q : Nat) (H1 : Heap), va_P D vwCl (ws ++ [(q, .inl (cC, N', .inl (fun _ => 0)))]) H1 → va_D A (ws ++ [(q, .inl (cC, N', .inl (fun _ => 0)))]) → va_S A H0 H1 locs → W p l e R s m args below meth c H1 locs (cells + 1) (slots + N') Q (F0 m (pc + 2) ls (.ref q :: rest))) : W p l e R s m args below meth c H locs cells slots Q (F0 m pc ls (.int n :: rest)) := by
  refine va_newa (atype := .char) (ty := .char) (a0 := (N', .inl (fun _ => 0))) hx hb harr rfl hK hP hD hS hA (fun cA => rfl) hn hN hbytes hcells hslots hdg (fun q1 cA H1 hK1 hP1 hD1 hS1 => ?_)
  have e1 : s.vm.findClass ("[" ++ FieldType.char.toString) = some cA := (hK1.2 3 (cA, .char) rfl).2
  have e0 : s.vm.findClass ("[" ++ FieldType.char.toString) = some cC := (hK.2 1 (cC, .char) rfl).2
  rw [e0] at e1
  cases e1
  exact kk q1 H1 hP1 hD1 hS1
end INA
theorem in_D1 {sz h : Nat} {e : va_E} : va_D (va_A [(h, e)] sz) [(h, e)] := by
  refine ⟨fun i j x y hi hj _ => ?_, fun k x hk => va_A.in hk⟩
  have h1 : i < 1 := (List.getElem?_eq_some_iff.mp hi).1
  have h2 : j < 1 := (List.getElem?_eq_some_iff.mp hj).1
  omega
def nestL : List Cond := [.methodLinkNest "SecondOboe" 11 yX2_init "SecondOboe", .methodLinkNest "SecondOboe$Reader" 11 yX0_init "SecondOboe", .methodLinkNest "SecondOboe" 18 yX0_init "SecondOboe", .methodLinkNest "SecondOboe" 29 yX1_init "SecondOboe", .methodLinkNest "SecondOboe" 36 yX3_init "SecondOboe", .methodLinkNest "SecondOboe$Survey" 26 yX1_init "SecondOboe", .methodLinkNest "SecondOboe$Survey" 109 yX4_swapSeats "SecondOboe"]
/-- the nest's links -/
def NsW (U : State) : Prop := ∀ w ∈ nestL, va_Nw w U
theorem NsW.same {u U : State} (h : u.vm = U.vm) (hZ : NsW u) : NsW U := fun w hw => by
  have h0 := hZ w hw
  simp only [nestL, List.mem_cons, List.not_mem_nil, or_false] at hw
  rcases hw with rfl | rfl | rfl | rfl | rfl | rfl | rfl <;> exact va_Nw.same rfl h h0
theorem NsW.warm {s U : State} (hW : s.WarmedH U.vm) (hZ : NsW s) : NsW U := fun w hw => by
  have h0 := hZ w hw
  simp only [nestL, List.mem_cons, List.not_mem_nil, or_false] at hw
  rcases hw with rfl | rfl | rfl | rfl | rfl | rfl | rfl <;> exact va_Nw.warmM hW h0
/-- a constructor's start: the object, fresh; the classes -/
def InP (D : va_G) (cI cC cG : ClassId) (sz h ci : Nat) (fs : List Value) : Array Value → State → Prop := va_Pc [.ref h] (fun U => U.heap.size = sz ∧ va_P D vwCl [(h, .inr (ci, fs))] U.heap ∧ va_K D vwCl (tys3 cI cC cG) U ∧ NsW U)
theorem InP_blind {D : va_G} {cI cC cG : ClassId} {sz h ci : Nat} {fs : List Value} : FrameBlind (InP D cI cC cG sz h ci fs) := fun a U g mk q => ⟨q.1, q.2.1, q.2.2.1, va_K.moved (u := U) (U := U.calling g mk a) (Vm.Alike.refl U.vm) q.2.2.2.1, NsW.same (u := U) (U := U.calling g mk a) rfl q.2.2.2.2⟩
theorem we_0 : Cond.fieldLink "java/lang/String" 38 "java/lang/String" "COMPACT_STRINGS" "Z" ∈ gwl := gw_in (List.mem_append_right _ (List.mem_of_getElem? (i := 184) (by decide +kernel))) (by first | rfl | decide +kernel)
theorem we_1 : Cond.fieldLink "java/lang/String" 15 "java/lang/String" "coder" "B" ∈ gwl := gw_in (List.mem_append_right _ (List.mem_of_getElem? (i := 879) (by decide +kernel))) (by first | rfl | decide +kernel)
theorem we_2 : Cond.fieldLink "java/lang/String" 9 "java/lang/String" "value" "[B" ∈ gwl := gw_in (List.mem_append_right _ (List.mem_of_getElem? (i := 878) (by decide +kernel))) (by first | rfl | decide +kernel)
theorem we_3 : Cond.methodLink "java/lang/String" 335 yJ0_coder_7d493 ∈ gwl := gw_in (List.mem_append_right _ (List.mem_of_getElem? (i := 180) (by decide +kernel))) (by first | rfl | decide +kernel)
theorem we_4 : Cond.instanceMethod yJ0_coder_7d493 ∈ gwl := gw_in (List.mem_append_right _ (List.mem_of_getElem? (i := 181) (by decide +kernel))) (by first | rfl | decide +kernel)
theorem we_5 : Cond.selects "java/lang/String" yJ0_coder_7d493 yJ0_coder_7d493 ∈ gwl := gw_in (List.mem_append_right _ (List.mem_of_getElem? (i := 182) (by decide +kernel))) (by first | rfl | decide +kernel)
theorem we_6 : Cond.initialized "java/lang/String" ∈ gwl := gw_in (List.mem_append_right _ (List.mem_of_getElem? (i := 6) (by decide +kernel))) (by first | rfl | decide +kernel)
theorem we_7 : Cond.code yJ0_coder_7d493 cJ0_coder_7d493 1 (some .byte) ∈ gwl := gw_in (List.mem_append_right _ (List.mem_of_getElem? (i := 183) (by decide +kernel))) (by first | rfl | decide +kernel)
theorem we_8 : Cond.fieldLink "java/lang/String" 1053 "jdk/internal/util/Preconditions" "SIOOBE_FORMATTER" "Ljava/util/function/BiFunction;" ∈ gwl := gw_in (List.mem_append_right _ (List.mem_of_getElem? (i := 200) (by decide +kernel))) (by first | rfl | decide +kernel)
theorem we_9 : Cond.methodLink "java/lang/String" 1059 yJ3_checkIndex_8e157 ∈ gwl := gw_in (List.mem_append_right _ (List.mem_of_getElem? (i := 202) (by decide +kernel))) (by first | rfl | decide +kernel)
theorem we_10 : Cond.static yJ3_checkIndex_8e157 ∈ gwl := gw_in (List.mem_append_right _ (List.mem_of_getElem? (i := 203) (by decide +kernel))) (by first | rfl | decide +kernel)
theorem we_11 : Cond.initialized "jdk/internal/util/Preconditions" ∈ gwl := gw_in (List.mem_append_right _ (List.mem_of_getElem? (i := 8) (by decide +kernel))) (by first | rfl | decide +kernel)
theorem we_12 : Cond.code yJ3_checkIndex_8e157 cJ3_checkIndex_8e157 3 (some .int) ∈ gwl := gw_in (List.mem_append_right _ (List.mem_of_getElem? (i := 204) (by decide +kernel))) (by first | rfl | decide +kernel)
theorem we_13 : Cond.methodLink "java/lang/StringLatin1" 9 yJ0_checkIndex_df160 ∈ gwl := gw_in (List.mem_append_right _ (List.mem_of_getElem? (i := 197) (by decide +kernel))) (by first | rfl | decide +kernel)
theorem we_14 : Cond.static yJ0_checkIndex_df160 ∈ gwl := gw_in (List.mem_append_right _ (List.mem_of_getElem? (i := 198) (by decide +kernel))) (by first | rfl | decide +kernel)
theorem we_15 : Cond.code yJ0_checkIndex_df160 cJ0_checkIndex_df160 2 none ∈ gwl := gw_in (List.mem_append_right _ (List.mem_of_getElem? (i := 199) (by decide +kernel))) (by first | rfl | decide +kernel)
theorem we_16 : Cond.methodLink "java/lang/String" 492 yJ0_isLatin1_aae02 ∈ gwl := gw_in (List.mem_append_right _ (List.mem_of_getElem? (i := 190) (by decide +kernel))) (by first | rfl | decide +kernel)
theorem we_17 : Cond.instanceMethod yJ0_isLatin1_aae02 ∈ gwl := gw_in (List.mem_append_right _ (List.mem_of_getElem? (i := 191) (by decide +kernel))) (by first | rfl | decide +kernel)
theorem we_18 : Cond.selects "java/lang/String" yJ0_isLatin1_aae02 yJ0_isLatin1_aae02 ∈ gwl := gw_in (List.mem_append_right _ (List.mem_of_getElem? (i := 192) (by decide +kernel))) (by first | rfl | decide +kernel)
theorem we_19 : Cond.code yJ0_isLatin1_aae02 cJ0_isLatin1_aae02 1 (some .boolean) ∈ gwl := gw_in (List.mem_append_right _ (List.mem_of_getElem? (i := 193) (by decide +kernel))) (by first | rfl | decide +kernel)
theorem we_20 : Cond.methodLink "java/lang/String" 495 yJ1_charAt_3b067 ∈ gwl := gw_in (List.mem_append_right _ (List.mem_of_getElem? (i := 194) (by decide +kernel))) (by first | rfl | decide +kernel)
theorem we_21 : Cond.static yJ1_charAt_3b067 ∈ gwl := gw_in (List.mem_append_right _ (List.mem_of_getElem? (i := 195) (by decide +kernel))) (by first | rfl | decide +kernel)
theorem we_22 : Cond.initialized "java/lang/StringLatin1" ∈ gwl := gw_in (List.mem_append_right _ (List.mem_of_getElem? (i := 7) (by decide +kernel))) (by first | rfl | decide +kernel)
theorem we_23 : Cond.code yJ1_charAt_3b067 cJ1_charAt_3b067 2 (some .char) ∈ gwl := gw_in (List.mem_append_right _ (List.mem_of_getElem? (i := 196) (by decide +kernel))) (by first | rfl | decide +kernel)
theorem we_24 : Cond.methodLink "SecondOboe$Band" 3 ⟨"java/lang/Object", "<init>", "()V"⟩ ∈ gwl := gw_in (List.mem_append_right _ (List.mem_of_getElem? (i := 34) (by decide +kernel))) (by first | rfl | decide +kernel)
theorem we_25 : Cond.instanceMethod ⟨"java/lang/Object", "<init>", "()V"⟩ ∈ gwl := gw_in (List.mem_append_right _ (List.mem_of_getElem? (i := 21) (by decide +kernel))) (by first | rfl | decide +kernel)
theorem we_26 : Cond.code ⟨"java/lang/Object", "<init>", "()V"⟩ ⟨#[0xb1]⟩ 1 none ∈ gwl := gw_in (List.mem_append_right _ (List.mem_of_getElem? (i := 22) (by decide +kernel))) (by first | rfl | decide +kernel)
theorem we_27 : Cond.arrayClass .int ∈ gwl := gw_in (List.mem_append_right _ (List.mem_of_getElem? (i := 78) (by decide +kernel))) (by first | rfl | decide +kernel)
theorem we_28 : Cond.methodLink "SecondOboe$Evening" 3 ⟨"java/lang/Object", "<init>", "()V"⟩ ∈ gwl := gw_in (List.mem_append_right _ (List.mem_of_getElem? (i := 102) (by decide +kernel))) (by first | rfl | decide +kernel)
theorem we_29 : Cond.methodLink "SecondOboe$Reader" 3 ⟨"java/lang/Object", "<init>", "()V"⟩ ∈ gwl := gw_in (List.mem_append_right _ (List.mem_of_getElem? (i := 28) (by decide +kernel))) (by first | rfl | decide +kernel)
theorem we_30 : Cond.classLink "SecondOboe$Reader" 9 "SecondOboe$Band" ∈ gwl := gw_in (List.mem_append_right _ (List.mem_of_getElem? (i := 29) (by decide +kernel))) (by first | rfl | decide +kernel)
theorem we_31 : Cond.instantiable "SecondOboe$Band" 9 ∈ gwl := gw_in (List.mem_append_right _ (List.mem_of_getElem? (i := 30) (by decide +kernel))) (by first | rfl | decide +kernel)
theorem we_32 : Cond.code yX0_init cX0_init 1 none ∈ gwl := gw_in (List.mem_append_right _ (List.mem_of_getElem? (i := 33) (by decide +kernel))) (by first | rfl | decide +kernel)
theorem we_33 : Cond.instanceMethod yX0_init ∈ gwl := gw_in (List.mem_append_right _ (List.mem_of_getElem? (i := 32) (by decide +kernel))) (by first | rfl | decide +kernel)
theorem we_34 : Cond.arrayClass .char ∈ gwl := gw_in (List.mem_append_right _ (List.mem_of_getElem? (i := 94) (by decide +kernel))) (by first | rfl | decide +kernel)
theorem we_35 : Cond.methodLink "SecondOboe$Survey" 3 ⟨"java/lang/Object", "<init>", "()V"⟩ ∈ gwl := gw_in (List.mem_append_right _ (List.mem_of_getElem? (i := 128) (by decide +kernel))) (by first | rfl | decide +kernel)
theorem we_36 : Cond.classLink "SecondOboe$Survey" 24 "SecondOboe$Evening" ∈ gwl := gw_in (List.mem_append_right _ (List.mem_of_getElem? (i := 129) (by decide +kernel))) (by first | rfl | decide +kernel)
theorem we_37 : Cond.instantiable "SecondOboe$Evening" 4 ∈ gwl := gw_in (List.mem_append_right _ (List.mem_of_getElem? (i := 98) (by decide +kernel))) (by first | rfl | decide +kernel)
theorem we_38 : Cond.code yX1_init cX1_init 1 none ∈ gwl := gw_in (List.mem_append_right _ (List.mem_of_getElem? (i := 101) (by decide +kernel))) (by first | rfl | decide +kernel)
theorem we_39 : Cond.instanceMethod yX1_init ∈ gwl := gw_in (List.mem_append_right _ (List.mem_of_getElem? (i := 100) (by decide +kernel))) (by first | rfl | decide +kernel)
theorem dJ0_length_8abf5_0 : decode cJ0_length_8abf5 0 = .ok (.aload_n 0, 1) := by decide +kernel
theorem dJ0_length_8abf5_1 : decode cJ0_length_8abf5 1 = .ok (.getfield 9, 3) := by decide +kernel
theorem dJ0_length_8abf5_4 : decode cJ0_length_8abf5 4 = .ok (.arraylength, 1) := by decide +kernel
theorem dJ0_length_8abf5_5 : decode cJ0_length_8abf5 5 = .ok (.aload_n 0, 1) := by decide +kernel
theorem dJ0_length_8abf5_6 : decode cJ0_length_8abf5 6 = .ok (.invokevirtual 335, 3) := by decide +kernel
theorem dJ0_length_8abf5_9 : decode cJ0_length_8abf5 9 = .ok (.ishr, 1) := by decide +kernel
theorem dJ0_length_8abf5_10 : decode cJ0_length_8abf5 10 = .ok (.ireturn, 1) := by decide +kernel
theorem dJ0_charAt_5068e_0 : decode cJ0_charAt_5068e 0 = .ok (.aload_n 0, 1) := by decide +kernel
theorem dJ0_charAt_5068e_1 : decode cJ0_charAt_5068e 1 = .ok (.invokevirtual 492, 3) := by decide +kernel
theorem dJ0_charAt_5068e_4 : decode cJ0_charAt_5068e 4 = .ok (.ifCond .eq 12, 3) := by decide +kernel
theorem dJ0_charAt_5068e_7 : decode cJ0_charAt_5068e 7 = .ok (.aload_n 0, 1) := by decide +kernel
theorem dJ0_charAt_5068e_8 : decode cJ0_charAt_5068e 8 = .ok (.getfield 9, 3) := by decide +kernel
theorem dJ0_charAt_5068e_11 : decode cJ0_charAt_5068e 11 = .ok (.iload_n 1, 1) := by decide +kernel
theorem dJ0_charAt_5068e_12 : decode cJ0_charAt_5068e 12 = .ok (.invokestatic 495, 3) := by decide +kernel
theorem dJ0_charAt_5068e_15 : decode cJ0_charAt_5068e 15 = .ok (.ireturn, 1) := by decide +kernel
theorem dJ0_charAt_5068e_16 : decode cJ0_charAt_5068e 16 = .ok (.aload_n 0, 1) := by decide +kernel
theorem dJ0_charAt_5068e_17 : decode cJ0_charAt_5068e 17 = .ok (.getfield 9, 3) := by decide +kernel
theorem dJ0_charAt_5068e_20 : decode cJ0_charAt_5068e 20 = .ok (.iload_n 1, 1) := by decide +kernel
theorem dJ0_charAt_5068e_21 : decode cJ0_charAt_5068e 21 = .ok (.invokestatic 498, 3) := by decide +kernel
theorem dJ0_charAt_5068e_24 : decode cJ0_charAt_5068e 24 = .ok (.ireturn, 1) := by decide +kernel
theorem dJ0_coder_7d493_0 : decode cJ0_coder_7d493 0 = .ok (.getstatic 38, 3) := by decide +kernel
theorem dJ0_coder_7d493_3 : decode cJ0_coder_7d493 3 = .ok (.ifCond .eq 10, 3) := by decide +kernel
theorem dJ0_coder_7d493_6 : decode cJ0_coder_7d493 6 = .ok (.aload_n 0, 1) := by decide +kernel
theorem dJ0_coder_7d493_7 : decode cJ0_coder_7d493 7 = .ok (.getfield 15, 3) := by decide +kernel
theorem dJ0_coder_7d493_10 : decode cJ0_coder_7d493 10 = .ok (.goto 4, 3) := by decide +kernel
theorem dJ0_coder_7d493_13 : decode cJ0_coder_7d493 13 = .ok (.iconst 1, 1) := by decide +kernel
theorem dJ0_coder_7d493_14 : decode cJ0_coder_7d493 14 = .ok (.ireturn, 1) := by decide +kernel
theorem dJ0_isLatin1_aae02_0 : decode cJ0_isLatin1_aae02 0 = .ok (.getstatic 38, 3) := by decide +kernel
theorem dJ0_isLatin1_aae02_3 : decode cJ0_isLatin1_aae02 3 = .ok (.ifCond .eq 14, 3) := by decide +kernel
theorem dJ0_isLatin1_aae02_6 : decode cJ0_isLatin1_aae02 6 = .ok (.aload_n 0, 1) := by decide +kernel
theorem dJ0_isLatin1_aae02_7 : decode cJ0_isLatin1_aae02 7 = .ok (.getfield 15, 3) := by decide +kernel
theorem dJ0_isLatin1_aae02_10 : decode cJ0_isLatin1_aae02 10 = .ok (.ifCond .ne 7, 3) := by decide +kernel
theorem dJ0_isLatin1_aae02_13 : decode cJ0_isLatin1_aae02 13 = .ok (.iconst 1, 1) := by decide +kernel
theorem dJ0_isLatin1_aae02_14 : decode cJ0_isLatin1_aae02 14 = .ok (.goto 4, 3) := by decide +kernel
theorem dJ0_isLatin1_aae02_17 : decode cJ0_isLatin1_aae02 17 = .ok (.iconst 0, 1) := by decide +kernel
theorem dJ0_isLatin1_aae02_18 : decode cJ0_isLatin1_aae02 18 = .ok (.ireturn, 1) := by decide +kernel
theorem dJ0_checkIndex_df160_0 : decode cJ0_checkIndex_df160 0 = .ok (.iload_n 0, 1) := by decide +kernel
theorem dJ0_checkIndex_df160_1 : decode cJ0_checkIndex_df160 1 = .ok (.iload_n 1, 1) := by decide +kernel
theorem dJ0_checkIndex_df160_2 : decode cJ0_checkIndex_df160 2 = .ok (.getstatic 1053, 3) := by decide +kernel
theorem dJ0_checkIndex_df160_5 : decode cJ0_checkIndex_df160 5 = .ok (.invokestatic 1059, 3) := by decide +kernel
theorem dJ0_checkIndex_df160_8 : decode cJ0_checkIndex_df160 8 = .ok (.pop, 1) := by decide +kernel
theorem dJ0_checkIndex_df160_9 : decode cJ0_checkIndex_df160 9 = .ok (.return_, 1) := by decide +kernel
theorem dJ1_charAt_3b067_0 : decode cJ1_charAt_3b067 0 = .ok (.iload_n 1, 1) := by decide +kernel
theorem dJ1_charAt_3b067_1 : decode cJ1_charAt_3b067 1 = .ok (.aload_n 0, 1) := by decide +kernel
theorem dJ1_charAt_3b067_2 : decode cJ1_charAt_3b067 2 = .ok (.arraylength, 1) := by decide +kernel
theorem dJ1_charAt_3b067_3 : decode cJ1_charAt_3b067 3 = .ok (.invokestatic 9, 3) := by decide +kernel
theorem dJ1_charAt_3b067_6 : decode cJ1_charAt_3b067 6 = .ok (.aload_n 0, 1) := by decide +kernel
theorem dJ1_charAt_3b067_7 : decode cJ1_charAt_3b067 7 = .ok (.iload_n 1, 1) := by decide +kernel
theorem dJ1_charAt_3b067_8 : decode cJ1_charAt_3b067 8 = .ok (.baload, 1) := by decide +kernel
theorem dJ1_charAt_3b067_9 : decode cJ1_charAt_3b067 9 = .ok (.sipush 255, 3) := by decide +kernel
theorem dJ1_charAt_3b067_12 : decode cJ1_charAt_3b067 12 = .ok (.iand, 1) := by decide +kernel
theorem dJ1_charAt_3b067_13 : decode cJ1_charAt_3b067 13 = .ok (.i2c, 1) := by decide +kernel
theorem dJ1_charAt_3b067_14 : decode cJ1_charAt_3b067 14 = .ok (.ireturn, 1) := by decide +kernel
theorem dJ3_checkIndex_8e157_0 : decode cJ3_checkIndex_8e157 0 = .ok (.iload_n 0, 1) := by decide +kernel
theorem dJ3_checkIndex_8e157_1 : decode cJ3_checkIndex_8e157 1 = .ok (.ifCond .lt 8, 3) := by decide +kernel
theorem dJ3_checkIndex_8e157_4 : decode cJ3_checkIndex_8e157 4 = .ok (.iload_n 0, 1) := by decide +kernel
theorem dJ3_checkIndex_8e157_5 : decode cJ3_checkIndex_8e157 5 = .ok (.iload_n 1, 1) := by decide +kernel
theorem dJ3_checkIndex_8e157_6 : decode cJ3_checkIndex_8e157 6 = .ok (.if_icmp .lt 10, 3) := by decide +kernel
theorem dJ3_checkIndex_8e157_9 : decode cJ3_checkIndex_8e157 9 = .ok (.aload_n 2, 1) := by decide +kernel
theorem dJ3_checkIndex_8e157_10 : decode cJ3_checkIndex_8e157 10 = .ok (.iload_n 0, 1) := by decide +kernel
theorem dJ3_checkIndex_8e157_11 : decode cJ3_checkIndex_8e157 11 = .ok (.iload_n 1, 1) := by decide +kernel
theorem dJ3_checkIndex_8e157_12 : decode cJ3_checkIndex_8e157 12 = .ok (.invokestatic 95, 3) := by decide +kernel
theorem dJ3_checkIndex_8e157_15 : decode cJ3_checkIndex_8e157 15 = .ok (.athrow, 1) := by decide +kernel
theorem dJ3_checkIndex_8e157_16 : decode cJ3_checkIndex_8e157 16 = .ok (.iload_n 0, 1) := by decide +kernel
theorem dJ3_checkIndex_8e157_17 : decode cJ3_checkIndex_8e157 17 = .ok (.ireturn, 1) := by decide +kernel
set_option maxHeartbeats 4000000 in
set_option maxRecDepth 100000 in
theorem jc_coder (l : Launch) (aS aV : Nat) : Met l yJ0_coder_7d493 (gW yJ0_coder_7d493 cJ0_coder_7d493 1 (some .byte)) ({ frames := 0, cells := 0, slots := 0, locals := 0 }) (StP aS aV [.ref aS]) (StQ (some (.int 0))) 0 0 nowA := by
  refine Met.ofW (cc := cJ0_coder_7d493) (maxL := 1) (ret := (some .byte)) (by decide) rfl ?_
  intro p e s m args below meth c s₁ B hml hv
  obtain ⟨rfl, hF⟩ := hv
  have hx := B.exec
  have hb := B.bytes
  have hr := B.returns
  have hlocks := B.notSynchronized
  have hts : ∀ w ∈ gwl, w.before ([.ref aS] : List Value).toArray s = true := fun w hw => atoms_spec (ws := (gW yJ0_coder_7d493 cJ0_coder_7d493 1 (some .byte))) B.pre w (List.mem_cons_of_mem _ hw)
  have hown : s.vm.findClass RJ0 = some m.cls := findClass_of_methodNamed B.named
  have hl := lv_entry ([.ref aS]) (n := 1) (Nat.le_of_ble_eq_true rfl)
  rw [lg_entry_eq]
  generalize (lg_sl ([.ref aS]) ++ List.replicate (1 - (lg_sl ([.ref aS])).length) Slot.unset).toArray = ls at hl ⊢
  have hl : lv_has ls 1 [(0, .ref aS)] := hl
  have hS : va_S nowA s.heap s.heap [] := va_S.rf
  refine va_gets hx hb hF.2.2.2.2.1 hS hown (hts _ we_0) (fun _ h => h) dJ0_coder_7d493_0 ?_
  refine lv_if_eq (tgt := 13) hx hb dJ0_coder_7d493_3 (by decide) (fun z => absurd z (by decide)) (fun _ => ?_)
  refine lv_aload_n hx hb dJ0_coder_7d493_6 rfl (lv_at hl 0 rfl) ?_
  refine vk_getf hx hb hF.2.1 hS hown (hts _ we_1) (fun _ h => h) dJ0_coder_7d493_7 ?_
  refine lv_goto (tgt := 14) hx hb dJ0_coder_7d493_10 (by decide) ?_
  exact W.zret (ty := .byte) hx hb hr rfl (fun t ht _ => ⟨rfl, hS.F ht⟩) hS.2.2 dJ0_coder_7d493_14
set_option maxHeartbeats 4000000 in
set_option maxRecDepth 100000 in
theorem jc_latin (l : Launch) (aS aV : Nat) : Met l yJ0_isLatin1_aae02 (gW yJ0_isLatin1_aae02 cJ0_isLatin1_aae02 1 (some .boolean)) ({ frames := 0, cells := 0, slots := 0, locals := 0 }) (StP aS aV [.ref aS]) (StQ (some (.int 1))) 0 0 nowA := by
  refine Met.ofW (cc := cJ0_isLatin1_aae02) (maxL := 1) (ret := (some .boolean)) (by decide) rfl ?_
  intro p e s m args below meth c s₁ B hml hv
  obtain ⟨rfl, hF⟩ := hv
  have hx := B.exec
  have hb := B.bytes
  have hr := B.returns
  have hlocks := B.notSynchronized
  have hts : ∀ w ∈ gwl, w.before ([.ref aS] : List Value).toArray s = true := fun w hw => atoms_spec (ws := (gW yJ0_isLatin1_aae02 cJ0_isLatin1_aae02 1 (some .boolean))) B.pre w (List.mem_cons_of_mem _ hw)
  have hown : s.vm.findClass RJ0 = some m.cls := findClass_of_methodNamed B.named
  have hl := lv_entry ([.ref aS]) (n := 1) (Nat.le_of_ble_eq_true rfl)
  rw [lg_entry_eq]
  generalize (lg_sl ([.ref aS]) ++ List.replicate (1 - (lg_sl ([.ref aS])).length) Slot.unset).toArray = ls at hl ⊢
  have hl : lv_has ls 1 [(0, .ref aS)] := hl
  have hS : va_S nowA s.heap s.heap [] := va_S.rf
  refine va_gets hx hb hF.2.2.2.2.1 hS hown (hts _ we_0) (fun _ h => h) dJ0_isLatin1_aae02_0 ?_
  refine lv_if_eq (tgt := 17) hx hb dJ0_isLatin1_aae02_3 (by decide) (fun z => absurd z (by decide)) (fun _ => ?_)
  refine lv_aload_n hx hb dJ0_isLatin1_aae02_6 rfl (lv_at hl 0 rfl) ?_
  refine vk_getf hx hb hF.2.1 hS hown (hts _ we_1) (fun _ h => h) dJ0_isLatin1_aae02_7 ?_
  refine lv_if_ne (tgt := 17) hx hb dJ0_isLatin1_aae02_10 (by decide) (fun z => absurd rfl z) (fun _ => ?_)
  refine lv_iconst (v := 1) hx hb dJ0_isLatin1_aae02_13 (by decide) ?_
  refine lv_goto (tgt := 18) hx hb dJ0_isLatin1_aae02_14 (by decide) ?_
  exact W.zret (ty := .boolean) hx hb hr rfl (fun t ht _ => ⟨rfl, hS.F ht⟩) hS.2.2 dJ0_isLatin1_aae02_18
set_option maxHeartbeats 4000000 in
set_option maxRecDepth 100000 in
theorem jc_length (l : Launch) (aS aV : Nat) : Met l yJ0_length_8abf5 (gW yJ0_length_8abf5 cJ0_length_8abf5 1 (some .int)) ({ frames := 1, cells := 0, slots := 0, locals := 20 }) (StP aS aV [.ref aS]) (StQ (some (.int 67))) 0 0 nowA := by
  refine Met.ofW (cc := cJ0_length_8abf5) (maxL := 1) (ret := (some .int)) (by decide) rfl ?_
  intro p e s m args below meth c s₁ B hml hv
  obtain ⟨rfl, hF⟩ := hv
  have hx := B.exec
  have hb := B.bytes
  have hr := B.returns
  have hlocks := B.notSynchronized
  have hts : ∀ w ∈ gwl, w.before ([.ref aS] : List Value).toArray s = true := fun w hw => atoms_spec (ws := (gW yJ0_length_8abf5 cJ0_length_8abf5 1 (some .int))) B.pre w (List.mem_cons_of_mem _ hw)
  have hown : s.vm.findClass RJ0 = some m.cls := findClass_of_methodNamed B.named
  have hl := lv_entry ([.ref aS]) (n := 1) (Nat.le_of_ble_eq_true rfl)
  rw [lg_entry_eq]
  generalize (lg_sl ([.ref aS]) ++ List.replicate (1 - (lg_sl ([.ref aS])).length) Slot.unset).toArray = ls at hl ⊢
  have hl : lv_has ls 1 [(0, .ref aS)] := hl
  have hS : va_S nowA s.heap s.heap [] := va_S.rf
  refine lv_aload_n hx hb dJ0_length_8abf5_0 rfl (lv_at hl 0 rfl) ?_
  refine vk_getf hx hb hF.2.2.1 hS hown (hts _ we_2) (fun _ h => h) dJ0_length_8abf5_1 ?_
  refine va_tlen (v := 67) hx hb hF.2.2.2.1 hS rfl dJ0_length_8abf5_4 ?_
  refine lv_aload_n hx hb dJ0_length_8abf5_5 rfl (lv_at hl 0 rfl) ?_
  refine in_after (v0 := some (.int 0)) (va_runV (As := []) (rest := [.int 67]) ⟨hx, hb, hml, hown, hts⟩ (jc_coder l aS aV) (cwV 0 hts (own := RJ0) (index := 335) (C := RJ0) (gW_V we_3 we_4 we_5 we_6 we_7) rfl rfl rfl (by decide +kernel) ⟨Nat.le_of_ble_eq_true rfl, Nat.le_of_ble_eq_true rfl⟩) ⟨StP_blind, (by obtain ⟨cell, h1, h2, h3, -⟩ := hF.1; exact ⟨cell, h1, h2, h3⟩), fun U hU hW => ⟨rfl, by show StF aS aV nowA U U.heap; rw [hU]; exact hF.moved hW.alike⟩⟩ rfl rfl hl.1 rfl (lv_room (Nat.le_of_ble_eq_true rfl)) dJ0_length_8abf5_6 ⟨Nat.le_refl _, Nat.le_refl _⟩) hS (fun H1 locs1 hz hk hS => ?_)
  refine lv_ishr hx hb dJ0_length_8abf5_9 ?_
  exact W.iret (v := 67) hx hb hr (fun t ht _ => ⟨rfl, hS.F ht⟩) hS.2.2 dJ0_length_8abf5_10
set_option maxHeartbeats 4000000 in
set_option maxRecDepth 100000 in
theorem jc_ckN (l : Launch) (i : Int32) (h0 : ¬ i < 0) (h1 : i < 67) : Met l yJ3_checkIndex_8e157 (gW yJ3_checkIndex_8e157 cJ3_checkIndex_8e157 3 (some .int)) ({ frames := 0, cells := 0, slots := 0, locals := 0 }) (va_Pc [.int i, .int 67, .null] (fun _ => True)) (StQ (some (.int i))) 0 0 nowA := by
  refine Met.ofW (cc := cJ3_checkIndex_8e157) (maxL := 3) (ret := (some .int)) (by decide) rfl ?_
  intro p e s m args below meth c s₁ B hml hv
  obtain ⟨rfl, hF⟩ := hv
  have hx := B.exec
  have hb := B.bytes
  have hr := B.returns
  have hlocks := B.notSynchronized
  have hts : ∀ w ∈ gwl, w.before ([.int i, .int 67, .null] : List Value).toArray s = true := fun w hw => atoms_spec (ws := (gW yJ3_checkIndex_8e157 cJ3_checkIndex_8e157 3 (some .int))) B.pre w (List.mem_cons_of_mem _ hw)
  have hown : s.vm.findClass RJ3 = some m.cls := findClass_of_methodNamed B.named
  have hl := lv_entry ([.int i, .int 67, .null]) (n := 3) (Nat.le_of_ble_eq_true rfl)
  rw [lg_entry_eq]
  generalize (lg_sl ([.int i, .int 67, .null]) ++ List.replicate (3 - (lg_sl ([.int i, .int 67, .null])).length) Slot.unset).toArray = ls at hl ⊢
  have hl : lv_has ls 3 [(0, .int i), (1, .int 67), (2, .null)] := hl
  have hS : va_S nowA s.heap s.heap [] := va_S.rf
  refine lv_iload_n hx hb dJ3_checkIndex_8e157_0 rfl (lv_at hl 0 rfl) ?_
  refine lv_if_lt (tgt := 9) hx hb dJ3_checkIndex_8e157_1 (by decide) (fun z => absurd z h0) (fun _ => ?_)
  refine lv_iload_n hx hb dJ3_checkIndex_8e157_4 rfl (lv_at hl 0 rfl) ?_
  refine lv_iload_n hx hb dJ3_checkIndex_8e157_5 rfl (lv_at hl 1 rfl) ?_
  refine lv_icmp_lt (tgt := 16) hx hb dJ3_checkIndex_8e157_6 (by decide) (fun _ => ?_) (fun z => absurd h1 z)
  refine lv_iload_n hx hb dJ3_checkIndex_8e157_16 rfl (lv_at hl 0 rfl) ?_
  exact W.iret (v := i) hx hb hr (fun t ht _ => ⟨rfl, hS.F ht⟩) hS.2.2 dJ3_checkIndex_8e157_17
set_option maxHeartbeats 4000000 in
set_option maxRecDepth 100000 in
theorem jc_ckR (l : Launch) (i : Int32) (h0 : ¬ i < 0) (h1 : i < 67) (tF : Nat) : Met l yJ3_checkIndex_8e157 (gW yJ3_checkIndex_8e157 cJ3_checkIndex_8e157 3 (some .int)) ({ frames := 0, cells := 0, slots := 0, locals := 0 }) (va_Pc [.int i, .int 67, .ref tF] (fun _ => True)) (StQ (some (.int i))) 0 0 nowA := by
  refine Met.ofW (cc := cJ3_checkIndex_8e157) (maxL := 3) (ret := (some .int)) (by decide) rfl ?_
  intro p e s m args below meth c s₁ B hml hv
  obtain ⟨rfl, hF⟩ := hv
  have hx := B.exec
  have hb := B.bytes
  have hr := B.returns
  have hlocks := B.notSynchronized
  have hts : ∀ w ∈ gwl, w.before ([.int i, .int 67, .ref tF] : List Value).toArray s = true := fun w hw => atoms_spec (ws := (gW yJ3_checkIndex_8e157 cJ3_checkIndex_8e157 3 (some .int))) B.pre w (List.mem_cons_of_mem _ hw)
  have hown : s.vm.findClass RJ3 = some m.cls := findClass_of_methodNamed B.named
  have hl := lv_entry ([.int i, .int 67, .ref tF]) (n := 3) (Nat.le_of_ble_eq_true rfl)
  rw [lg_entry_eq]
  generalize (lg_sl ([.int i, .int 67, .ref tF]) ++ List.replicate (3 - (lg_sl ([.int i, .int 67, .ref tF])).length) Slot.unset).toArray = ls at hl ⊢
  have hl : lv_has ls 3 [(0, .int i), (1, .int 67), (2, .ref tF)] := hl
  have hS : va_S nowA s.heap s.heap [] := va_S.rf
  refine lv_iload_n hx hb dJ3_checkIndex_8e157_0 rfl (lv_at hl 0 rfl) ?_
  refine lv_if_lt (tgt := 9) hx hb dJ3_checkIndex_8e157_1 (by decide) (fun z => absurd z h0) (fun _ => ?_)
  refine lv_iload_n hx hb dJ3_checkIndex_8e157_4 rfl (lv_at hl 0 rfl) ?_
  refine lv_iload_n hx hb dJ3_checkIndex_8e157_5 rfl (lv_at hl 1 rfl) ?_
  refine lv_icmp_lt (tgt := 16) hx hb dJ3_checkIndex_8e157_6 (by decide) (fun _ => ?_) (fun z => absurd h1 z)
  refine lv_iload_n hx hb dJ3_checkIndex_8e157_16 rfl (lv_at hl 0 rfl) ?_
  exact W.iret (v := i) hx hb hr (fun t ht _ => ⟨rfl, hS.F ht⟩) hS.2.2 dJ3_checkIndex_8e157_17
set_option maxHeartbeats 4000000 in
set_option maxRecDepth 100000 in
theorem jc_check (l : Launch) (aS aV : Nat) (i : Int32) (h0 : ¬ i < 0) (h1 : i < 67) : Met l yJ0_checkIndex_df160 (gW yJ0_checkIndex_df160 cJ0_checkIndex_df160 2 none) ({ frames := 1, cells := 0, slots := 0, locals := 22 }) (StP aS aV [.int i, .int 67]) (StQ none) 0 0 nowA := by
  refine Met.ofW (cc := cJ0_checkIndex_df160) (maxL := 2) (ret := none) (by decide) rfl ?_
  intro p e s m args below meth c s₁ B hml hv
  obtain ⟨rfl, hF⟩ := hv
  have hx := B.exec
  have hb := B.bytes
  have hr := B.returns
  have hlocks := B.notSynchronized
  have hts : ∀ w ∈ gwl, w.before ([.int i, .int 67] : List Value).toArray s = true := fun w hw => atoms_spec (ws := (gW yJ0_checkIndex_df160 cJ0_checkIndex_df160 2 none)) B.pre w (List.mem_cons_of_mem _ hw)
  have hown : s.vm.findClass RJ0 = some m.cls := findClass_of_methodNamed B.named
  have hl := lv_entry ([.int i, .int 67]) (n := 2) (Nat.le_of_ble_eq_true rfl)
  rw [lg_entry_eq]
  generalize (lg_sl ([.int i, .int 67]) ++ List.replicate (2 - (lg_sl ([.int i, .int 67])).length) Slot.unset).toArray = ls at hl ⊢
  have hl : lv_has ls 2 [(0, .int i), (1, .int 67)] := hl
  have hS : va_S nowA s.heap s.heap [] := va_S.rf
  refine lv_iload_n hx hb dJ0_checkIndex_df160_0 rfl (lv_at hl 0 rfl) ?_
  refine lv_iload_n hx hb dJ0_checkIndex_df160_1 rfl (lv_at hl 1 rfl) ?_
  rcases hF.2.2.2.2.2 with hZ | ⟨tF, hZ⟩
  · refine va_gets hx hb hZ hS hown (hts _ we_8) (fun _ h => h) dJ0_checkIndex_df160_2 ?_
    refine in_after (v0 := some (.int i)) (va_runS (As := [.int i, .int 67, .null]) (rest := []) ⟨hx, hb, hml, hown, hts⟩ (jc_ckN l i h0 h1) (va_cwS 3 hts (own := RJ0) (index := 1059) (gW_S we_9 we_10 we_11 we_12) rfl rfl rfl (by decide +kernel) ⟨Nat.le_of_ble_eq_true rfl, Nat.le_of_ble_eq_true rfl⟩) ⟨fun a U g mk q => q, fun U hU hW => ⟨rfl, trivial⟩⟩ rfl rfl hl.1 rfl (lv_room (Nat.le_of_ble_eq_true rfl)) dJ0_checkIndex_df160_5 ⟨Nat.le_refl _, Nat.le_refl _⟩) hS (fun H1 locs1 hz hk hS => ?_)
    refine lv_pop hx hb dJ0_checkIndex_df160_8 rfl ?_
    exact W.vret hx hb hr (fun t ht _ => ⟨rfl, hS.F ht⟩) hS.2.2 dJ0_checkIndex_df160_9
  · refine va_gets hx hb hZ hS hown (hts _ we_8) (fun _ h => h) dJ0_checkIndex_df160_2 ?_
    refine in_after (v0 := some (.int i)) (va_runS (As := [.int i, .int 67, .ref tF]) (rest := []) ⟨hx, hb, hml, hown, hts⟩ (jc_ckR l i h0 h1 tF) (va_cwS 3 hts (own := RJ0) (index := 1059) (gW_S we_9 we_10 we_11 we_12) rfl rfl rfl (by decide +kernel) ⟨Nat.le_of_ble_eq_true rfl, Nat.le_of_ble_eq_true rfl⟩) ⟨fun a U g mk q => q, fun U hU hW => ⟨rfl, trivial⟩⟩ rfl rfl hl.1 rfl (lv_room (Nat.le_of_ble_eq_true rfl)) dJ0_checkIndex_df160_5 ⟨Nat.le_refl _, Nat.le_refl _⟩) hS (fun H1 locs1 hz hk hS => ?_)
    refine lv_pop hx hb dJ0_checkIndex_df160_8 rfl ?_
    exact W.vret hx hb hr (fun t ht _ => ⟨rfl, hS.F ht⟩) hS.2.2 dJ0_checkIndex_df160_9
theorem st_ch : ∀ k, k < 67 → (((Int32.ofInt (strL.getD k 0)) &&& 255).toUInt32 % 65536).toInt32 = Int32.ofInt (strL.getD k 0) ∧ narrow .char (.int (Int32.ofInt (strL.getD k 0))) = .int (Int32.ofInt (strL.getD k 0)) := by decide +kernel
theorem st_i (k : Nat) (hk : k < 67) : ¬ nI k < 0 ∧ nI k < 67 ∧ vp_in (nI k) 67 ∧ (nI k).toNatClampNeg = k := by
  refine ⟨nI_pos (by omega), (nI_lt hk (by omega) : nI k < nI 67), ?_, nI_clamp (by omega)⟩
  intro z
  rcases z with z | z
  · exact nI_pos (by omega) z
  · rw [nI_clamp (by omega)] at z
    omega
set_option maxHeartbeats 4000000 in
set_option maxRecDepth 100000 in
theorem jc_lch (l : Launch) (aS aV k : Nat) (hk : k < 67) : Met l yJ1_charAt_3b067 (gW yJ1_charAt_3b067 cJ1_charAt_3b067 2 (some .char)) ({ frames := 2, cells := 0, slots := 0, locals := 43 }) (StP aS aV [.ref aV, .int (nI k)]) (StQ (some (.int (Int32.ofInt (strL.getD k 0))))) 0 0 nowA := by
  refine Met.ofW (cc := cJ1_charAt_3b067) (maxL := 2) (ret := (some .char)) (by decide) rfl ?_
  intro p e s m args below meth c s₁ B hml hv
  obtain ⟨rfl, hF⟩ := hv
  have hx := B.exec
  have hb := B.bytes
  have hr := B.returns
  have hlocks := B.notSynchronized
  have hts : ∀ w ∈ gwl, w.before ([.ref aV, .int (nI k)] : List Value).toArray s = true := fun w hw => atoms_spec (ws := (gW yJ1_charAt_3b067 cJ1_charAt_3b067 2 (some .char))) B.pre w (List.mem_cons_of_mem _ hw)
  have hown : s.vm.findClass RJ1 = some m.cls := findClass_of_methodNamed B.named
  have hl := lv_entry ([.ref aV, .int (nI k)]) (n := 2) (Nat.le_of_ble_eq_true rfl)
  rw [lg_entry_eq]
  generalize (lg_sl ([.ref aV, .int (nI k)]) ++ List.replicate (2 - (lg_sl ([.ref aV, .int (nI k)])).length) Slot.unset).toArray = ls at hl ⊢
  have hl : lv_has ls 2 [(0, .ref aV), (1, .int (nI k))] := hl
  have hS : va_S nowA s.heap s.heap [] := va_S.rf
  obtain ⟨i0, i1, i2, i3⟩ := st_i k hk
  refine lv_iload_n hx hb dJ1_charAt_3b067_0 rfl (lv_at hl 1 rfl) ?_
  refine lv_aload_n hx hb dJ1_charAt_3b067_1 rfl (lv_at hl 0 rfl) ?_
  refine va_tlen (v := 67) hx hb hF.2.2.2.1 hS rfl dJ1_charAt_3b067_2 ?_
  refine in_after (v0 := none) (va_runS (As := [.int (nI k), .int 67]) (rest := []) ⟨hx, hb, hml, hown, hts⟩ (jc_check l aS aV (nI k) i0 i1) (va_cwS 2 hts (own := RJ1) (index := 9) (gW_S we_13 we_14 we_6 we_15) rfl rfl rfl (by decide +kernel) ⟨Nat.le_of_ble_eq_true rfl, Nat.le_of_ble_eq_true rfl⟩) ⟨StP_blind, fun U hU hW => ⟨rfl, by show StF aS aV nowA U U.heap; rw [hU]; exact hF.moved hW.alike⟩⟩ rfl rfl hl.1 rfl (lv_room (Nat.le_of_ble_eq_true rfl)) dJ1_charAt_3b067_3 ⟨Nat.le_refl _, Nat.le_refl _⟩) hS (fun H1 locs1 hz hk1 hS => ?_)
  refine lv_aload_n hx hb dJ1_charAt_3b067_6 rfl (lv_at hl 0 rfl) ?_
  refine lv_iload_n hx hb dJ1_charAt_3b067_7 rfl (lv_at hl 1 rfl) ?_
  refine va_tb (v := .int (Int32.ofInt (strL.getD k 0))) hx hb hF.2.2.2.1 hS i2 (by rw [i3]) dJ1_charAt_3b067_8 ?_
  refine lv_sipush (v := 255) hx hb dJ1_charAt_3b067_9 (by decide) ?_
  refine lv_iand hx hb dJ1_charAt_3b067_12 ?_
  refine lv_i2c (v := Int32.ofInt (strL.getD k 0)) hx hb dJ1_charAt_3b067_13 (st_ch k hk).1 ?_
  exact W.zret (ty := .char) hx hb hr (st_ch k hk).2 (fun t ht _ => ⟨rfl, hS.F ht⟩) hS.2.2 dJ1_charAt_3b067_14
set_option maxHeartbeats 4000000 in
set_option maxRecDepth 100000 in
theorem jc_charAt (l : Launch) (aS aV k : Nat) (hk : k < 67) : Met l yJ0_charAt_5068e (gW yJ0_charAt_5068e cJ0_charAt_5068e 2 (some .char)) ({ frames := 3, cells := 0, slots := 0, locals := 64 }) (StP aS aV [.ref aS, .int (nI k)]) (StQ (some (.int (Int32.ofInt (strL.getD k 0))))) 0 0 nowA := by
  refine Met.ofW (cc := cJ0_charAt_5068e) (maxL := 2) (ret := (some .char)) (by decide) rfl ?_
  intro p e s m args below meth c s₁ B hml hv
  obtain ⟨rfl, hF⟩ := hv
  have hx := B.exec
  have hb := B.bytes
  have hr := B.returns
  have hlocks := B.notSynchronized
  have hts : ∀ w ∈ gwl, w.before ([.ref aS, .int (nI k)] : List Value).toArray s = true := fun w hw => atoms_spec (ws := (gW yJ0_charAt_5068e cJ0_charAt_5068e 2 (some .char))) B.pre w (List.mem_cons_of_mem _ hw)
  have hown : s.vm.findClass RJ0 = some m.cls := findClass_of_methodNamed B.named
  have hl := lv_entry ([.ref aS, .int (nI k)]) (n := 2) (Nat.le_of_ble_eq_true rfl)
  rw [lg_entry_eq]
  generalize (lg_sl ([.ref aS, .int (nI k)]) ++ List.replicate (2 - (lg_sl ([.ref aS, .int (nI k)])).length) Slot.unset).toArray = ls at hl ⊢
  have hl : lv_has ls 2 [(0, .ref aS), (1, .int (nI k))] := hl
  have hS : va_S nowA s.heap s.heap [] := va_S.rf
  refine lv_aload_n hx hb dJ0_charAt_5068e_0 rfl (lv_at hl 0 rfl) ?_
  refine in_after (v0 := some (.int 1)) (va_runV (As := []) (rest := []) ⟨hx, hb, hml, hown, hts⟩ (jc_latin l aS aV) (cwV 0 hts (own := RJ0) (index := 492) (C := RJ0) (gW_V we_16 we_17 we_18 we_6 we_19) rfl rfl rfl (by decide +kernel) ⟨Nat.le_of_ble_eq_true rfl, Nat.le_of_ble_eq_true rfl⟩) ⟨StP_blind, (by obtain ⟨cell, h1, h2, h3, -⟩ := hF.1; exact ⟨cell, h1, h2, h3⟩), fun U hU hW => ⟨rfl, by show StF aS aV nowA U U.heap; rw [hU]; exact hF.moved hW.alike⟩⟩ rfl rfl hl.1 rfl (lv_room (Nat.le_of_ble_eq_true rfl)) dJ0_charAt_5068e_1 ⟨Nat.le_refl _, Nat.le_refl _⟩) hS (fun H1 locs1 hz hk1 hS => ?_)
  have hF1 := hF.kept (H1 := H1) (fun a ha _ => hk1 a ha)
  refine lv_if_eq (tgt := 16) hx hb dJ0_charAt_5068e_4 (by decide) (fun z => absurd z (by decide)) (fun _ => ?_)
  refine lv_aload_n hx hb dJ0_charAt_5068e_7 rfl (lv_at hl 0 rfl) ?_
  refine vk_getf hx hb hF.2.2.1 hS hown (hts _ we_2) (fun _ h => h) dJ0_charAt_5068e_8 ?_
  refine lv_iload_n hx hb dJ0_charAt_5068e_11 rfl (lv_at hl 1 rfl) ?_
  refine in_after (v0 := some (.int (Int32.ofInt (strL.getD k 0)))) (va_runS (As := [.ref aV, .int (nI k)]) (rest := []) ⟨hx, hb, hml, hown, hts⟩ (jc_lch l aS aV k hk) (va_cwS 2 hts (own := RJ0) (index := 495) (gW_S we_20 we_21 we_22 we_23) rfl rfl rfl (by decide +kernel) ⟨Nat.le_of_ble_eq_true rfl, Nat.le_of_ble_eq_true rfl⟩) ⟨StP_blind, fun U hU hW => ⟨rfl, by show StF aS aV nowA U U.heap; rw [hU]; exact hF1.moved hW.alike⟩⟩ rfl rfl hl.1 rfl (lv_room (Nat.le_of_ble_eq_true rfl)) dJ0_charAt_5068e_12 ⟨Nat.le_refl _, Nat.le_refl _⟩) hS (fun H2 locs2 hz2 hk2 hS => ?_)
  exact W.zret (ty := .char) hx hb hr (st_ch k hk).2 (fun t ht _ => ⟨rfl, hS.F ht⟩) hS.2.2 dJ0_charAt_5068e_15
