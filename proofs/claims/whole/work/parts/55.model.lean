theorem we_62 : Cond.methodLink "SecondOboeModel" 1 ⟨"java/lang/Object", "<init>", "()V"⟩ ∈ gwl := gw_in (List.mem_append_right _ (List.mem_of_getElem? (i := 588) (by decide +kernel))) (by first | rfl | decide +kernel)
theorem we_63 : Cond.instantiable "SecondOboe" 17 ∈ gwl := gw_in (List.mem_append_right _ (List.mem_of_getElem? (i := 16) (by decide +kernel))) (by first | rfl | decide +kernel)
theorem we_64 : Cond.instantiable "SecondOboeModel" 21 ∈ gwl := gw_in (List.mem_append_right _ (List.mem_of_getElem? (i := 584) (by decide +kernel))) (by first | rfl | decide +kernel)
theorem we_65 : Cond.classLink "SecondOboeLaw" 7 "SecondOboe" ∈ gwl := gw_in (List.mem_append_right _ (List.mem_of_getElem? (i := 15) (by decide +kernel))) (by first | rfl | decide +kernel)
theorem we_66 : Cond.code yX4_init cX4_init 2 none ∈ gwl := gw_in (List.mem_append_right _ (List.mem_of_getElem? (i := 19) (by decide +kernel))) (by first | rfl | decide +kernel)
theorem we_67 : Cond.methodLink "SecondOboeLaw" 9 yX4_init ∈ gwl := gw_in (List.mem_append_right _ (List.mem_of_getElem? (i := 17) (by decide +kernel))) (by first | rfl | decide +kernel)
theorem we_68 : Cond.instanceMethod yX4_init ∈ gwl := gw_in (List.mem_append_right _ (List.mem_of_getElem? (i := 18) (by decide +kernel))) (by first | rfl | decide +kernel)
theorem we_69 : Cond.classLink "SecondOboeLaw" 10 "SecondOboeModel" ∈ gwl := gw_in (List.mem_append_right _ (List.mem_of_getElem? (i := 583) (by decide +kernel))) (by first | rfl | decide +kernel)
theorem we_70 : Cond.code yX5_init cX5_init 1 none ∈ gwl := gw_in (List.mem_append_right _ (List.mem_of_getElem? (i := 587) (by decide +kernel))) (by first | rfl | decide +kernel)
theorem we_71 : Cond.methodLink "SecondOboeLaw" 12 yX5_init ∈ gwl := gw_in (List.mem_append_right _ (List.mem_of_getElem? (i := 585) (by decide +kernel))) (by first | rfl | decide +kernel)
theorem we_72 : Cond.instanceMethod yX5_init ∈ gwl := gw_in (List.mem_append_right _ (List.mem_of_getElem? (i := 586) (by decide +kernel))) (by first | rfl | decide +kernel)
/-! SecondOboeModel(): printed by wip/whole/gen14.py -/
theorem cE_adr {adr adr' : Nat → Nat} {cI cC cG : ClassId} {σ : Sg} {p : Nat} (h : ∀ j, adr' (lk p j) = adr (lk p j)) : cE adr' cI cC cG σ p = cE adr cI cC cG σ p := by
  unfold cE
  simp only [h]
def adx (adr : Nat → Nat) (L : List Nat) : Nat → Nat := fun i => if i < 40 then adr i else L.getD (i - 40) 0
theorem adx_lo {adr : Nat → Nat} {L : List Nat} {i : Nat} (h : i < 40) : adx adr L i = adr i := if_pos h
theorem adx_hi {adr : Nat → Nat} {L : List Nat} {i : Nat} (h : ¬ i < 40) : adx adr L i = L.getD (i - 40) 0 := if_neg h
abbrev imE (h : Nat) : Nat × va_E := (h, .inr (5, [.null, .int 0, .null, .null, .null, .null, .int 0, .null, .int 0, .null, .int 0, .int 0, .null, .null, .null, .null, .int 0, .int 0, .int 0, .int 0, .null]))
/-- what the model's constructor may touch -/
def imA (adr : Nat → Nat) (h sz : Nat) : Nat → Prop := fun q => (∃ i, i < 40 ∧ q = adr i) ∨ q = h ∨ sz ≤ q
def ImP (D : va_G) (cI cC cG : ClassId) (adr : Nat → Nat) (σ1 : Sg) (sz h : Nat) : Array Value → State → Prop := va_Pc [.ref h] (fun U => U.heap.size = sz ∧ va_P D vwCl (cs 40 adr cI cC cG σ1) U.heap ∧ va_P D vwCl [imE h] U.heap ∧ va_K D vwCl (tys3 cI cC cG) U ∧ va_Nw nestW U)
theorem ImP_blind {D : va_G} {cI cC cG : ClassId} {adr : Nat → Nat} {σ1 : Sg} {sz h : Nat} : FrameBlind (ImP D cI cC cG adr σ1 sz h) := fun a U g mk q => ⟨q.1, q.2.1, q.2.2.1, q.2.2.2.1, va_K.moved (u := U) (U := U.calling g mk a) (Vm.Alike.refl U.vm) q.2.2.2.2.1, va_Nw.same (u := U) (U := U.calling g mk a) rfl rfl q.2.2.2.2.2⟩
set_option maxHeartbeats 4000000 in
set_option maxRecDepth 100000 in
theorem ki_X5_init (l : Launch) (D : va_G) (cI cC cG : ClassId) (adr : Nat → Nat) (h sz : Nat) (σ1 σ2 : Sg) (hinj : ∀ i j, i < 40 → j < 40 → adr i = adr j → i = j) (hne : ∀ i, i < 40 → adr i ≠ h) (hz : ∀ q, 40 ≤ q → σ1 q = Z0 q) (hrun : Run 78 101 [vR 40] [] σ1 = some (vI 0, σ2)) : Met l yX5_init (gW yX5_init cX5_init 1 none) ({ frames := 2, cells := 12, slots := 413, locals := 44 }) (ImP D cI cC cG adr σ1 sz h) (va_Qv (fun _ : Nat → Nat => True) (fun u t => (∀ i, i < 40 → u i = adr i) ∧ u 40 = h ∧ (∀ i j, i < 53 → j < 53 → u i = u j → i = j) ∧ (∀ i, i < 53 → imA adr h sz (u i)) ∧ va_P D vwCl (cs 53 u cI cC cG σ2) t.heap) (imA adr h sz)) 12 413 (imA adr h sz) := by
  refine Met.ofW (cc := cX5_init) (maxL := 1) (ret := none) (by decide) rfl ?_
  intro p e s m args below meth c s₁ B hml hv
  obtain ⟨rfl, ⟨hsz, hX, hP, hK, hnw⟩⟩ := hv
  have hx := B.exec
  have hb := B.bytes
  have hr := B.returns
  have hlocks := B.notSynchronized
  have hts : ∀ w ∈ gwl, w.before ([.ref h] : List Value).toArray s = true := fun w hw => atoms_spec (ws := (gW yX5_init cX5_init 1 none)) B.pre w (List.mem_cons_of_mem _ hw)
  have hown : s.vm.findClass RX5 = some m.cls := findClass_of_methodNamed B.named
  have hl := lv_entry ([.ref h]) (n := 1) (Nat.le_of_ble_eq_true rfl)
  rw [lg_entry_eq]
  generalize (lg_sl ([.ref h]) ++ List.replicate (1 - (lg_sl ([.ref h])).length) Slot.unset).toArray = ls at hl ⊢
  have hl : lv_has ls 1 [(0, .ref h)] := hl
  have hin : meth.name = "<init>" := (name_of_methodNamed B.named B.method).1
  subst hsz
  have hP : va_P D vwCl [(h, .inr (5, [.null, .int 0, .null, .null, .null, .null, .int 0, .null, .int 0, .null, .int 0, .int 0, .null, .null, .null, .null, .int 0, .int 0, .int 0, .int 0, .null]))] s.heap := hP
  have hD : va_D (va_A [imE h] s.heap.size) [(h, .inr (5, [.null, .int 0, .null, .null, .null, .null, .int 0, .null, .int 0, .null, .int 0, .int 0, .null, .null, .null, .null, .int 0, .int 0, .int 0, .int 0, .null]))] := in_D1
  obtain ⟨A, hAe⟩ : ∃ A, va_A [imE h] s.heap.size = A := ⟨_, rfl⟩
  rw [hAe] at hD
  have hA : ∀ q : Nat, s.heap.size ≤ q → A q := fun q h => by rw [← hAe]; exact Or.inr h
  have hS : va_S A s.heap s.heap [] := va_S.rf
  have hXl : ∀ i, i < 40 → adr i < s.heap.size := fun i hi => (hX i _ (cs_at hi)).lt
  have hXA : ∀ i, i < 40 → ¬ A (adr i) := fun i hi z => by
    rw [← hAe] at z
    rcases z with ⟨k, e, hk⟩ | z
    · have h1 : k < 1 := (List.getElem?_eq_some_iff.mp hk).1
      have h2 : k = 0 := by omega
      subst h2
      cases hk
      exact hne i hi rfl
    · have := hXl i hi
      omega
  have hAs : ∀ q, A q → q = h ∨ s.heap.size ≤ q := fun q z => by
    rw [← hAe] at z
    rcases z with ⟨k, e, hk⟩ | z
    · have h1 : k < 1 := (List.getElem?_eq_some_iff.mp hk).1
      have h2 : k = 0 := by omega
      subst h2
      cases hk
      exact Or.inl rfl
    · exact Or.inr z
  refine lv_aload_n hx hb dX5_init_0 rfl (lv_at hl 0 rfl) ?_
  refine W.objInit hx hb hown (hts _ we_62) (hts _ we_25) (hts _ we_26) rfl (by rw [hml]; exact hl.1) rfl dX5_init_1 (Nat.le_of_ble_eq_true rfl) (Nat.le_of_ble_eq_true rfl) ?_
  refine W.eq (g2 := F0 m 4 ls []) rfl ?_
  refine lv_aload_n hx hb dX5_init_4 rfl (lv_at hl 0 rfl) ?_
  refine lv_sipush (v := 200) hx hb dX5_init_5 (by decide) ?_
  refine in_newI (N' := 200) hx hb (hts _ we_27) hK hP hD hS hA (by decide) (by decide) (Nat.le_of_ble_eq_true rfl) (Nat.le_of_ble_eq_true rfl) (Nat.le_of_ble_eq_true rfl) dX5_init_8 (fun q1 H hP hD hS => ?_)
  have hP : va_P D vwCl [(h, .inr (5, [.null, .int 0, .null, .null, .null, .null, .int 0, .null, .int 0, .null, .int 0, .int 0, .null, .null, .null, .null, .int 0, .int 0, .int 0, .int 0, .null])), (q1, .inl (cI, 200, .inl (fun _ => 0)))] H := hP
  have hD : va_D A [(h, .inr (5, [.null, .int 0, .null, .null, .null, .null, .int 0, .null, .int 0, .null, .int 0, .int 0, .null, .null, .null, .null, .int 0, .int 0, .int 0, .int 0, .null])), (q1, .inl (cI, 200, .inl (fun _ => 0)))] := hD
  refine va_putF (D := D) (ci := 5) (v := .ref q1) (ty := .array .int) (C := RX5) (T := TX5) (N := 21) hx hb hts iw_X5 tyX5 tyX5_ok nmX5 hown hK hP hD hS 0 rfl rfl 0 (by decide) (hts _ wd_294) (fun _ h9 => h9) rfl hin rfl (by decide +kernel) rfl rfl (Nat.le_of_ble_eq_true rfl) dX5_init_10 (fun H locs hP hD hS => ?_)
  have hP : va_P D vwCl [(h, .inr (5, [.ref q1, .int 0, .null, .null, .null, .null, .int 0, .null, .int 0, .null, .int 0, .int 0, .null, .null, .null, .null, .int 0, .int 0, .int 0, .int 0, .null])), (q1, .inl (cI, 200, .inl (fun _ => 0)))] H := hP
  have hD : va_D A [(h, .inr (5, [.ref q1, .int 0, .null, .null, .null, .null, .int 0, .null, .int 0, .null, .int 0, .int 0, .null, .null, .null, .null, .int 0, .int 0, .int 0, .int 0, .null])), (q1, .inl (cI, 200, .inl (fun _ => 0)))] := hD
  refine lv_aload_n hx hb dX5_init_13 rfl (lv_at hl 0 rfl) ?_
  refine lv_bipush (v := 40) hx hb dX5_init_14 (by decide) ?_
  refine in_newI (N' := 40) hx hb (hts _ we_27) hK hP hD hS hA (by decide) (by decide) (Nat.le_of_ble_eq_true rfl) (Nat.le_of_ble_eq_true rfl) (Nat.le_of_ble_eq_true rfl) dX5_init_16 (fun q2 H hP hD hS => ?_)
  have hP : va_P D vwCl [(h, .inr (5, [.ref q1, .int 0, .null, .null, .null, .null, .int 0, .null, .int 0, .null, .int 0, .int 0, .null, .null, .null, .null, .int 0, .int 0, .int 0, .int 0, .null])), (q1, .inl (cI, 200, .inl (fun _ => 0))), (q2, .inl (cI, 40, .inl (fun _ => 0)))] H := hP
  have hD : va_D A [(h, .inr (5, [.ref q1, .int 0, .null, .null, .null, .null, .int 0, .null, .int 0, .null, .int 0, .int 0, .null, .null, .null, .null, .int 0, .int 0, .int 0, .int 0, .null])), (q1, .inl (cI, 200, .inl (fun _ => 0))), (q2, .inl (cI, 40, .inl (fun _ => 0)))] := hD
  refine va_putF (D := D) (ci := 5) (v := .ref q2) (ty := .array .int) (C := RX5) (T := TX5) (N := 21) hx hb hts iw_X5 tyX5 tyX5_ok nmX5 hown hK hP hD hS 0 rfl rfl 2 (by decide) (hts _ wd_273) (fun _ h9 => h9) rfl hin rfl (by decide +kernel) rfl rfl (Nat.le_of_ble_eq_true rfl) dX5_init_18 (fun H locs hP hD hS => ?_)
  have hP : va_P D vwCl [(h, .inr (5, [.ref q1, .int 0, .ref q2, .null, .null, .null, .int 0, .null, .int 0, .null, .int 0, .int 0, .null, .null, .null, .null, .int 0, .int 0, .int 0, .int 0, .null])), (q1, .inl (cI, 200, .inl (fun _ => 0))), (q2, .inl (cI, 40, .inl (fun _ => 0)))] H := hP
  have hD : va_D A [(h, .inr (5, [.ref q1, .int 0, .ref q2, .null, .null, .null, .int 0, .null, .int 0, .null, .int 0, .int 0, .null, .null, .null, .null, .int 0, .int 0, .int 0, .int 0, .null])), (q1, .inl (cI, 200, .inl (fun _ => 0))), (q2, .inl (cI, 40, .inl (fun _ => 0)))] := hD
  refine lv_aload_n hx hb dX5_init_21 rfl (lv_at hl 0 rfl) ?_
  refine lv_bipush (v := 40) hx hb dX5_init_22 (by decide) ?_
  refine in_newI (N' := 40) hx hb (hts _ we_27) hK hP hD hS hA (by decide) (by decide) (Nat.le_of_ble_eq_true rfl) (Nat.le_of_ble_eq_true rfl) (Nat.le_of_ble_eq_true rfl) dX5_init_24 (fun q3 H hP hD hS => ?_)
  have hP : va_P D vwCl [(h, .inr (5, [.ref q1, .int 0, .ref q2, .null, .null, .null, .int 0, .null, .int 0, .null, .int 0, .int 0, .null, .null, .null, .null, .int 0, .int 0, .int 0, .int 0, .null])), (q1, .inl (cI, 200, .inl (fun _ => 0))), (q2, .inl (cI, 40, .inl (fun _ => 0))), (q3, .inl (cI, 40, .inl (fun _ => 0)))] H := hP
  have hD : va_D A [(h, .inr (5, [.ref q1, .int 0, .ref q2, .null, .null, .null, .int 0, .null, .int 0, .null, .int 0, .int 0, .null, .null, .null, .null, .int 0, .int 0, .int 0, .int 0, .null])), (q1, .inl (cI, 200, .inl (fun _ => 0))), (q2, .inl (cI, 40, .inl (fun _ => 0))), (q3, .inl (cI, 40, .inl (fun _ => 0)))] := hD
  refine va_putF (D := D) (ci := 5) (v := .ref q3) (ty := .array .int) (C := RX5) (T := TX5) (N := 21) hx hb hts iw_X5 tyX5 tyX5_ok nmX5 hown hK hP hD hS 0 rfl rfl 3 (by decide) (hts _ wd_267) (fun _ h9 => h9) rfl hin rfl (by decide +kernel) rfl rfl (Nat.le_of_ble_eq_true rfl) dX5_init_26 (fun H locs hP hD hS => ?_)
  have hP : va_P D vwCl [(h, .inr (5, [.ref q1, .int 0, .ref q2, .ref q3, .null, .null, .int 0, .null, .int 0, .null, .int 0, .int 0, .null, .null, .null, .null, .int 0, .int 0, .int 0, .int 0, .null])), (q1, .inl (cI, 200, .inl (fun _ => 0))), (q2, .inl (cI, 40, .inl (fun _ => 0))), (q3, .inl (cI, 40, .inl (fun _ => 0)))] H := hP
  have hD : va_D A [(h, .inr (5, [.ref q1, .int 0, .ref q2, .ref q3, .null, .null, .int 0, .null, .int 0, .null, .int 0, .int 0, .null, .null, .null, .null, .int 0, .int 0, .int 0, .int 0, .null])), (q1, .inl (cI, 200, .inl (fun _ => 0))), (q2, .inl (cI, 40, .inl (fun _ => 0))), (q3, .inl (cI, 40, .inl (fun _ => 0)))] := hD
  refine lv_aload_n hx hb dX5_init_29 rfl (lv_at hl 0 rfl) ?_
  refine lv_bipush (v := 8) hx hb dX5_init_30 (by decide) ?_
  refine in_newI (N' := 8) hx hb (hts _ we_27) hK hP hD hS hA (by decide) (by decide) (Nat.le_of_ble_eq_true rfl) (Nat.le_of_ble_eq_true rfl) (Nat.le_of_ble_eq_true rfl) dX5_init_32 (fun q4 H hP hD hS => ?_)
  have hP : va_P D vwCl [(h, .inr (5, [.ref q1, .int 0, .ref q2, .ref q3, .null, .null, .int 0, .null, .int 0, .null, .int 0, .int 0, .null, .null, .null, .null, .int 0, .int 0, .int 0, .int 0, .null])), (q1, .inl (cI, 200, .inl (fun _ => 0))), (q2, .inl (cI, 40, .inl (fun _ => 0))), (q3, .inl (cI, 40, .inl (fun _ => 0))), (q4, .inl (cI, 8, .inl (fun _ => 0)))] H := hP
  have hD : va_D A [(h, .inr (5, [.ref q1, .int 0, .ref q2, .ref q3, .null, .null, .int 0, .null, .int 0, .null, .int 0, .int 0, .null, .null, .null, .null, .int 0, .int 0, .int 0, .int 0, .null])), (q1, .inl (cI, 200, .inl (fun _ => 0))), (q2, .inl (cI, 40, .inl (fun _ => 0))), (q3, .inl (cI, 40, .inl (fun _ => 0))), (q4, .inl (cI, 8, .inl (fun _ => 0)))] := hD
  refine va_putF (D := D) (ci := 5) (v := .ref q4) (ty := .array .int) (C := RX5) (T := TX5) (N := 21) hx hb hts iw_X5 tyX5 tyX5_ok nmX5 hown hK hP hD hS 0 rfl rfl 4 (by decide) (hts _ wd_274) (fun _ h9 => h9) rfl hin rfl (by decide +kernel) rfl rfl (Nat.le_of_ble_eq_true rfl) dX5_init_34 (fun H locs hP hD hS => ?_)
  have hP : va_P D vwCl [(h, .inr (5, [.ref q1, .int 0, .ref q2, .ref q3, .ref q4, .null, .int 0, .null, .int 0, .null, .int 0, .int 0, .null, .null, .null, .null, .int 0, .int 0, .int 0, .int 0, .null])), (q1, .inl (cI, 200, .inl (fun _ => 0))), (q2, .inl (cI, 40, .inl (fun _ => 0))), (q3, .inl (cI, 40, .inl (fun _ => 0))), (q4, .inl (cI, 8, .inl (fun _ => 0)))] H := hP
  have hD : va_D A [(h, .inr (5, [.ref q1, .int 0, .ref q2, .ref q3, .ref q4, .null, .int 0, .null, .int 0, .null, .int 0, .int 0, .null, .null, .null, .null, .int 0, .int 0, .int 0, .int 0, .null])), (q1, .inl (cI, 200, .inl (fun _ => 0))), (q2, .inl (cI, 40, .inl (fun _ => 0))), (q3, .inl (cI, 40, .inl (fun _ => 0))), (q4, .inl (cI, 8, .inl (fun _ => 0)))] := hD
  refine lv_aload_n hx hb dX5_init_37 rfl (lv_at hl 0 rfl) ?_
  refine lv_bipush (v := 64) hx hb dX5_init_38 (by decide) ?_
  refine in_newI (N' := 64) hx hb (hts _ we_27) hK hP hD hS hA (by decide) (by decide) (Nat.le_of_ble_eq_true rfl) (Nat.le_of_ble_eq_true rfl) (Nat.le_of_ble_eq_true rfl) dX5_init_40 (fun q5 H hP hD hS => ?_)
  have hP : va_P D vwCl [(h, .inr (5, [.ref q1, .int 0, .ref q2, .ref q3, .ref q4, .null, .int 0, .null, .int 0, .null, .int 0, .int 0, .null, .null, .null, .null, .int 0, .int 0, .int 0, .int 0, .null])), (q1, .inl (cI, 200, .inl (fun _ => 0))), (q2, .inl (cI, 40, .inl (fun _ => 0))), (q3, .inl (cI, 40, .inl (fun _ => 0))), (q4, .inl (cI, 8, .inl (fun _ => 0))), (q5, .inl (cI, 64, .inl (fun _ => 0)))] H := hP
  have hD : va_D A [(h, .inr (5, [.ref q1, .int 0, .ref q2, .ref q3, .ref q4, .null, .int 0, .null, .int 0, .null, .int 0, .int 0, .null, .null, .null, .null, .int 0, .int 0, .int 0, .int 0, .null])), (q1, .inl (cI, 200, .inl (fun _ => 0))), (q2, .inl (cI, 40, .inl (fun _ => 0))), (q3, .inl (cI, 40, .inl (fun _ => 0))), (q4, .inl (cI, 8, .inl (fun _ => 0))), (q5, .inl (cI, 64, .inl (fun _ => 0)))] := hD
  refine va_putF (D := D) (ci := 5) (v := .ref q5) (ty := .array .int) (C := RX5) (T := TX5) (N := 21) hx hb hts iw_X5 tyX5 tyX5_ok nmX5 hown hK hP hD hS 0 rfl rfl 5 (by decide) (hts _ wd_358) (fun _ h9 => h9) rfl hin rfl (by decide +kernel) rfl rfl (Nat.le_of_ble_eq_true rfl) dX5_init_42 (fun H locs hP hD hS => ?_)
  have hP : va_P D vwCl [(h, .inr (5, [.ref q1, .int 0, .ref q2, .ref q3, .ref q4, .ref q5, .int 0, .null, .int 0, .null, .int 0, .int 0, .null, .null, .null, .null, .int 0, .int 0, .int 0, .int 0, .null])), (q1, .inl (cI, 200, .inl (fun _ => 0))), (q2, .inl (cI, 40, .inl (fun _ => 0))), (q3, .inl (cI, 40, .inl (fun _ => 0))), (q4, .inl (cI, 8, .inl (fun _ => 0))), (q5, .inl (cI, 64, .inl (fun _ => 0)))] H := hP
  have hD : va_D A [(h, .inr (5, [.ref q1, .int 0, .ref q2, .ref q3, .ref q4, .ref q5, .int 0, .null, .int 0, .null, .int 0, .int 0, .null, .null, .null, .null, .int 0, .int 0, .int 0, .int 0, .null])), (q1, .inl (cI, 200, .inl (fun _ => 0))), (q2, .inl (cI, 40, .inl (fun _ => 0))), (q3, .inl (cI, 40, .inl (fun _ => 0))), (q4, .inl (cI, 8, .inl (fun _ => 0))), (q5, .inl (cI, 64, .inl (fun _ => 0)))] := hD
  refine lv_aload_n hx hb dX5_init_45 rfl (lv_at hl 0 rfl) ?_
  refine lv_bipush (v := 16) hx hb dX5_init_46 (by decide) ?_
  refine in_newI (N' := 16) hx hb (hts _ we_27) hK hP hD hS hA (by decide) (by decide) (Nat.le_of_ble_eq_true rfl) (Nat.le_of_ble_eq_true rfl) (Nat.le_of_ble_eq_true rfl) dX5_init_48 (fun q6 H hP hD hS => ?_)
  have hP : va_P D vwCl [(h, .inr (5, [.ref q1, .int 0, .ref q2, .ref q3, .ref q4, .ref q5, .int 0, .null, .int 0, .null, .int 0, .int 0, .null, .null, .null, .null, .int 0, .int 0, .int 0, .int 0, .null])), (q1, .inl (cI, 200, .inl (fun _ => 0))), (q2, .inl (cI, 40, .inl (fun _ => 0))), (q3, .inl (cI, 40, .inl (fun _ => 0))), (q4, .inl (cI, 8, .inl (fun _ => 0))), (q5, .inl (cI, 64, .inl (fun _ => 0))), (q6, .inl (cI, 16, .inl (fun _ => 0)))] H := hP
  have hD : va_D A [(h, .inr (5, [.ref q1, .int 0, .ref q2, .ref q3, .ref q4, .ref q5, .int 0, .null, .int 0, .null, .int 0, .int 0, .null, .null, .null, .null, .int 0, .int 0, .int 0, .int 0, .null])), (q1, .inl (cI, 200, .inl (fun _ => 0))), (q2, .inl (cI, 40, .inl (fun _ => 0))), (q3, .inl (cI, 40, .inl (fun _ => 0))), (q4, .inl (cI, 8, .inl (fun _ => 0))), (q5, .inl (cI, 64, .inl (fun _ => 0))), (q6, .inl (cI, 16, .inl (fun _ => 0)))] := hD
  refine va_putF (D := D) (ci := 5) (v := .ref q6) (ty := .array .int) (C := RX5) (T := TX5) (N := 21) hx hb hts iw_X5 tyX5 tyX5_ok nmX5 hown hK hP hD hS 0 rfl rfl 7 (by decide) (hts _ wd_392) (fun _ h9 => h9) rfl hin rfl (by decide +kernel) rfl rfl (Nat.le_of_ble_eq_true rfl) dX5_init_50 (fun H locs hP hD hS => ?_)
  have hP : va_P D vwCl [(h, .inr (5, [.ref q1, .int 0, .ref q2, .ref q3, .ref q4, .ref q5, .int 0, .ref q6, .int 0, .null, .int 0, .int 0, .null, .null, .null, .null, .int 0, .int 0, .int 0, .int 0, .null])), (q1, .inl (cI, 200, .inl (fun _ => 0))), (q2, .inl (cI, 40, .inl (fun _ => 0))), (q3, .inl (cI, 40, .inl (fun _ => 0))), (q4, .inl (cI, 8, .inl (fun _ => 0))), (q5, .inl (cI, 64, .inl (fun _ => 0))), (q6, .inl (cI, 16, .inl (fun _ => 0)))] H := hP
  have hD : va_D A [(h, .inr (5, [.ref q1, .int 0, .ref q2, .ref q3, .ref q4, .ref q5, .int 0, .ref q6, .int 0, .null, .int 0, .int 0, .null, .null, .null, .null, .int 0, .int 0, .int 0, .int 0, .null])), (q1, .inl (cI, 200, .inl (fun _ => 0))), (q2, .inl (cI, 40, .inl (fun _ => 0))), (q3, .inl (cI, 40, .inl (fun _ => 0))), (q4, .inl (cI, 8, .inl (fun _ => 0))), (q5, .inl (cI, 64, .inl (fun _ => 0))), (q6, .inl (cI, 16, .inl (fun _ => 0)))] := hD
  refine lv_aload_n hx hb dX5_init_53 rfl (lv_at hl 0 rfl) ?_
  refine lv_bipush (v := 8) hx hb dX5_init_54 (by decide) ?_
  refine in_newI (N' := 8) hx hb (hts _ we_27) hK hP hD hS hA (by decide) (by decide) (Nat.le_of_ble_eq_true rfl) (Nat.le_of_ble_eq_true rfl) (Nat.le_of_ble_eq_true rfl) dX5_init_56 (fun q7 H hP hD hS => ?_)
  have hP : va_P D vwCl [(h, .inr (5, [.ref q1, .int 0, .ref q2, .ref q3, .ref q4, .ref q5, .int 0, .ref q6, .int 0, .null, .int 0, .int 0, .null, .null, .null, .null, .int 0, .int 0, .int 0, .int 0, .null])), (q1, .inl (cI, 200, .inl (fun _ => 0))), (q2, .inl (cI, 40, .inl (fun _ => 0))), (q3, .inl (cI, 40, .inl (fun _ => 0))), (q4, .inl (cI, 8, .inl (fun _ => 0))), (q5, .inl (cI, 64, .inl (fun _ => 0))), (q6, .inl (cI, 16, .inl (fun _ => 0))), (q7, .inl (cI, 8, .inl (fun _ => 0)))] H := hP
  have hD : va_D A [(h, .inr (5, [.ref q1, .int 0, .ref q2, .ref q3, .ref q4, .ref q5, .int 0, .ref q6, .int 0, .null, .int 0, .int 0, .null, .null, .null, .null, .int 0, .int 0, .int 0, .int 0, .null])), (q1, .inl (cI, 200, .inl (fun _ => 0))), (q2, .inl (cI, 40, .inl (fun _ => 0))), (q3, .inl (cI, 40, .inl (fun _ => 0))), (q4, .inl (cI, 8, .inl (fun _ => 0))), (q5, .inl (cI, 64, .inl (fun _ => 0))), (q6, .inl (cI, 16, .inl (fun _ => 0))), (q7, .inl (cI, 8, .inl (fun _ => 0)))] := hD
  refine va_putF (D := D) (ci := 5) (v := .ref q7) (ty := .array .int) (C := RX5) (T := TX5) (N := 21) hx hb hts iw_X5 tyX5 tyX5_ok nmX5 hown hK hP hD hS 0 rfl rfl 9 (by decide) (hts _ wd_388) (fun _ h9 => h9) rfl hin rfl (by decide +kernel) rfl rfl (Nat.le_of_ble_eq_true rfl) dX5_init_58 (fun H locs hP hD hS => ?_)
  have hP : va_P D vwCl [(h, .inr (5, [.ref q1, .int 0, .ref q2, .ref q3, .ref q4, .ref q5, .int 0, .ref q6, .int 0, .ref q7, .int 0, .int 0, .null, .null, .null, .null, .int 0, .int 0, .int 0, .int 0, .null])), (q1, .inl (cI, 200, .inl (fun _ => 0))), (q2, .inl (cI, 40, .inl (fun _ => 0))), (q3, .inl (cI, 40, .inl (fun _ => 0))), (q4, .inl (cI, 8, .inl (fun _ => 0))), (q5, .inl (cI, 64, .inl (fun _ => 0))), (q6, .inl (cI, 16, .inl (fun _ => 0))), (q7, .inl (cI, 8, .inl (fun _ => 0)))] H := hP
  have hD : va_D A [(h, .inr (5, [.ref q1, .int 0, .ref q2, .ref q3, .ref q4, .ref q5, .int 0, .ref q6, .int 0, .ref q7, .int 0, .int 0, .null, .null, .null, .null, .int 0, .int 0, .int 0, .int 0, .null])), (q1, .inl (cI, 200, .inl (fun _ => 0))), (q2, .inl (cI, 40, .inl (fun _ => 0))), (q3, .inl (cI, 40, .inl (fun _ => 0))), (q4, .inl (cI, 8, .inl (fun _ => 0))), (q5, .inl (cI, 64, .inl (fun _ => 0))), (q6, .inl (cI, 16, .inl (fun _ => 0))), (q7, .inl (cI, 8, .inl (fun _ => 0)))] := hD
  refine lv_aload_n hx hb dX5_init_61 rfl (lv_at hl 0 rfl) ?_
  refine lv_bipush (v := 7) hx hb dX5_init_62 (by decide) ?_
  refine in_newI (N' := 7) hx hb (hts _ we_27) hK hP hD hS hA (by decide) (by decide) (Nat.le_of_ble_eq_true rfl) (Nat.le_of_ble_eq_true rfl) (Nat.le_of_ble_eq_true rfl) dX5_init_64 (fun q8 H hP hD hS => ?_)
  have hP : va_P D vwCl [(h, .inr (5, [.ref q1, .int 0, .ref q2, .ref q3, .ref q4, .ref q5, .int 0, .ref q6, .int 0, .ref q7, .int 0, .int 0, .null, .null, .null, .null, .int 0, .int 0, .int 0, .int 0, .null])), (q1, .inl (cI, 200, .inl (fun _ => 0))), (q2, .inl (cI, 40, .inl (fun _ => 0))), (q3, .inl (cI, 40, .inl (fun _ => 0))), (q4, .inl (cI, 8, .inl (fun _ => 0))), (q5, .inl (cI, 64, .inl (fun _ => 0))), (q6, .inl (cI, 16, .inl (fun _ => 0))), (q7, .inl (cI, 8, .inl (fun _ => 0))), (q8, .inl (cI, 7, .inl (fun _ => 0)))] H := hP
  have hD : va_D A [(h, .inr (5, [.ref q1, .int 0, .ref q2, .ref q3, .ref q4, .ref q5, .int 0, .ref q6, .int 0, .ref q7, .int 0, .int 0, .null, .null, .null, .null, .int 0, .int 0, .int 0, .int 0, .null])), (q1, .inl (cI, 200, .inl (fun _ => 0))), (q2, .inl (cI, 40, .inl (fun _ => 0))), (q3, .inl (cI, 40, .inl (fun _ => 0))), (q4, .inl (cI, 8, .inl (fun _ => 0))), (q5, .inl (cI, 64, .inl (fun _ => 0))), (q6, .inl (cI, 16, .inl (fun _ => 0))), (q7, .inl (cI, 8, .inl (fun _ => 0))), (q8, .inl (cI, 7, .inl (fun _ => 0)))] := hD
  refine va_putF (D := D) (ci := 5) (v := .ref q8) (ty := .array .int) (C := RX5) (T := TX5) (N := 21) hx hb hts iw_X5 tyX5 tyX5_ok nmX5 hown hK hP hD hS 0 rfl rfl 12 (by decide) (hts _ wd_315) (fun _ h9 => h9) rfl hin rfl (by decide +kernel) rfl rfl (Nat.le_of_ble_eq_true rfl) dX5_init_66 (fun H locs hP hD hS => ?_)
  have hP : va_P D vwCl [(h, .inr (5, [.ref q1, .int 0, .ref q2, .ref q3, .ref q4, .ref q5, .int 0, .ref q6, .int 0, .ref q7, .int 0, .int 0, .ref q8, .null, .null, .null, .int 0, .int 0, .int 0, .int 0, .null])), (q1, .inl (cI, 200, .inl (fun _ => 0))), (q2, .inl (cI, 40, .inl (fun _ => 0))), (q3, .inl (cI, 40, .inl (fun _ => 0))), (q4, .inl (cI, 8, .inl (fun _ => 0))), (q5, .inl (cI, 64, .inl (fun _ => 0))), (q6, .inl (cI, 16, .inl (fun _ => 0))), (q7, .inl (cI, 8, .inl (fun _ => 0))), (q8, .inl (cI, 7, .inl (fun _ => 0)))] H := hP
  have hD : va_D A [(h, .inr (5, [.ref q1, .int 0, .ref q2, .ref q3, .ref q4, .ref q5, .int 0, .ref q6, .int 0, .ref q7, .int 0, .int 0, .ref q8, .null, .null, .null, .int 0, .int 0, .int 0, .int 0, .null])), (q1, .inl (cI, 200, .inl (fun _ => 0))), (q2, .inl (cI, 40, .inl (fun _ => 0))), (q3, .inl (cI, 40, .inl (fun _ => 0))), (q4, .inl (cI, 8, .inl (fun _ => 0))), (q5, .inl (cI, 64, .inl (fun _ => 0))), (q6, .inl (cI, 16, .inl (fun _ => 0))), (q7, .inl (cI, 8, .inl (fun _ => 0))), (q8, .inl (cI, 7, .inl (fun _ => 0)))] := hD
  refine lv_aload_n hx hb dX5_init_69 rfl (lv_at hl 0 rfl) ?_
  refine lv_bipush (v := 7) hx hb dX5_init_70 (by decide) ?_
  refine in_newI (N' := 7) hx hb (hts _ we_27) hK hP hD hS hA (by decide) (by decide) (Nat.le_of_ble_eq_true rfl) (Nat.le_of_ble_eq_true rfl) (Nat.le_of_ble_eq_true rfl) dX5_init_72 (fun q9 H hP hD hS => ?_)
  have hP : va_P D vwCl [(h, .inr (5, [.ref q1, .int 0, .ref q2, .ref q3, .ref q4, .ref q5, .int 0, .ref q6, .int 0, .ref q7, .int 0, .int 0, .ref q8, .null, .null, .null, .int 0, .int 0, .int 0, .int 0, .null])), (q1, .inl (cI, 200, .inl (fun _ => 0))), (q2, .inl (cI, 40, .inl (fun _ => 0))), (q3, .inl (cI, 40, .inl (fun _ => 0))), (q4, .inl (cI, 8, .inl (fun _ => 0))), (q5, .inl (cI, 64, .inl (fun _ => 0))), (q6, .inl (cI, 16, .inl (fun _ => 0))), (q7, .inl (cI, 8, .inl (fun _ => 0))), (q8, .inl (cI, 7, .inl (fun _ => 0))), (q9, .inl (cI, 7, .inl (fun _ => 0)))] H := hP
  have hD : va_D A [(h, .inr (5, [.ref q1, .int 0, .ref q2, .ref q3, .ref q4, .ref q5, .int 0, .ref q6, .int 0, .ref q7, .int 0, .int 0, .ref q8, .null, .null, .null, .int 0, .int 0, .int 0, .int 0, .null])), (q1, .inl (cI, 200, .inl (fun _ => 0))), (q2, .inl (cI, 40, .inl (fun _ => 0))), (q3, .inl (cI, 40, .inl (fun _ => 0))), (q4, .inl (cI, 8, .inl (fun _ => 0))), (q5, .inl (cI, 64, .inl (fun _ => 0))), (q6, .inl (cI, 16, .inl (fun _ => 0))), (q7, .inl (cI, 8, .inl (fun _ => 0))), (q8, .inl (cI, 7, .inl (fun _ => 0))), (q9, .inl (cI, 7, .inl (fun _ => 0)))] := hD
  refine va_putF (D := D) (ci := 5) (v := .ref q9) (ty := .array .int) (C := RX5) (T := TX5) (N := 21) hx hb hts iw_X5 tyX5 tyX5_ok nmX5 hown hK hP hD hS 0 rfl rfl 13 (by decide) (hts _ wd_320) (fun _ h9 => h9) rfl hin rfl (by decide +kernel) rfl rfl (Nat.le_of_ble_eq_true rfl) dX5_init_74 (fun H locs hP hD hS => ?_)
  have hP : va_P D vwCl [(h, .inr (5, [.ref q1, .int 0, .ref q2, .ref q3, .ref q4, .ref q5, .int 0, .ref q6, .int 0, .ref q7, .int 0, .int 0, .ref q8, .ref q9, .null, .null, .int 0, .int 0, .int 0, .int 0, .null])), (q1, .inl (cI, 200, .inl (fun _ => 0))), (q2, .inl (cI, 40, .inl (fun _ => 0))), (q3, .inl (cI, 40, .inl (fun _ => 0))), (q4, .inl (cI, 8, .inl (fun _ => 0))), (q5, .inl (cI, 64, .inl (fun _ => 0))), (q6, .inl (cI, 16, .inl (fun _ => 0))), (q7, .inl (cI, 8, .inl (fun _ => 0))), (q8, .inl (cI, 7, .inl (fun _ => 0))), (q9, .inl (cI, 7, .inl (fun _ => 0)))] H := hP
  have hD : va_D A [(h, .inr (5, [.ref q1, .int 0, .ref q2, .ref q3, .ref q4, .ref q5, .int 0, .ref q6, .int 0, .ref q7, .int 0, .int 0, .ref q8, .ref q9, .null, .null, .int 0, .int 0, .int 0, .int 0, .null])), (q1, .inl (cI, 200, .inl (fun _ => 0))), (q2, .inl (cI, 40, .inl (fun _ => 0))), (q3, .inl (cI, 40, .inl (fun _ => 0))), (q4, .inl (cI, 8, .inl (fun _ => 0))), (q5, .inl (cI, 64, .inl (fun _ => 0))), (q6, .inl (cI, 16, .inl (fun _ => 0))), (q7, .inl (cI, 8, .inl (fun _ => 0))), (q8, .inl (cI, 7, .inl (fun _ => 0))), (q9, .inl (cI, 7, .inl (fun _ => 0)))] := hD
  refine lv_aload_n hx hb dX5_init_77 rfl (lv_at hl 0 rfl) ?_
  refine lv_bipush (v := 7) hx hb dX5_init_78 (by decide) ?_
  refine in_newI (N' := 7) hx hb (hts _ we_27) hK hP hD hS hA (by decide) (by decide) (Nat.le_of_ble_eq_true rfl) (Nat.le_of_ble_eq_true rfl) (Nat.le_of_ble_eq_true rfl) dX5_init_80 (fun q10 H hP hD hS => ?_)
  have hP : va_P D vwCl [(h, .inr (5, [.ref q1, .int 0, .ref q2, .ref q3, .ref q4, .ref q5, .int 0, .ref q6, .int 0, .ref q7, .int 0, .int 0, .ref q8, .ref q9, .null, .null, .int 0, .int 0, .int 0, .int 0, .null])), (q1, .inl (cI, 200, .inl (fun _ => 0))), (q2, .inl (cI, 40, .inl (fun _ => 0))), (q3, .inl (cI, 40, .inl (fun _ => 0))), (q4, .inl (cI, 8, .inl (fun _ => 0))), (q5, .inl (cI, 64, .inl (fun _ => 0))), (q6, .inl (cI, 16, .inl (fun _ => 0))), (q7, .inl (cI, 8, .inl (fun _ => 0))), (q8, .inl (cI, 7, .inl (fun _ => 0))), (q9, .inl (cI, 7, .inl (fun _ => 0))), (q10, .inl (cI, 7, .inl (fun _ => 0)))] H := hP
  have hD : va_D A [(h, .inr (5, [.ref q1, .int 0, .ref q2, .ref q3, .ref q4, .ref q5, .int 0, .ref q6, .int 0, .ref q7, .int 0, .int 0, .ref q8, .ref q9, .null, .null, .int 0, .int 0, .int 0, .int 0, .null])), (q1, .inl (cI, 200, .inl (fun _ => 0))), (q2, .inl (cI, 40, .inl (fun _ => 0))), (q3, .inl (cI, 40, .inl (fun _ => 0))), (q4, .inl (cI, 8, .inl (fun _ => 0))), (q5, .inl (cI, 64, .inl (fun _ => 0))), (q6, .inl (cI, 16, .inl (fun _ => 0))), (q7, .inl (cI, 8, .inl (fun _ => 0))), (q8, .inl (cI, 7, .inl (fun _ => 0))), (q9, .inl (cI, 7, .inl (fun _ => 0))), (q10, .inl (cI, 7, .inl (fun _ => 0)))] := hD
  refine va_putF (D := D) (ci := 5) (v := .ref q10) (ty := .array .int) (C := RX5) (T := TX5) (N := 21) hx hb hts iw_X5 tyX5 tyX5_ok nmX5 hown hK hP hD hS 0 rfl rfl 14 (by decide) (hts _ wd_316) (fun _ h9 => h9) rfl hin rfl (by decide +kernel) rfl rfl (Nat.le_of_ble_eq_true rfl) dX5_init_82 (fun H locs hP hD hS => ?_)
  have hP : va_P D vwCl [(h, .inr (5, [.ref q1, .int 0, .ref q2, .ref q3, .ref q4, .ref q5, .int 0, .ref q6, .int 0, .ref q7, .int 0, .int 0, .ref q8, .ref q9, .ref q10, .null, .int 0, .int 0, .int 0, .int 0, .null])), (q1, .inl (cI, 200, .inl (fun _ => 0))), (q2, .inl (cI, 40, .inl (fun _ => 0))), (q3, .inl (cI, 40, .inl (fun _ => 0))), (q4, .inl (cI, 8, .inl (fun _ => 0))), (q5, .inl (cI, 64, .inl (fun _ => 0))), (q6, .inl (cI, 16, .inl (fun _ => 0))), (q7, .inl (cI, 8, .inl (fun _ => 0))), (q8, .inl (cI, 7, .inl (fun _ => 0))), (q9, .inl (cI, 7, .inl (fun _ => 0))), (q10, .inl (cI, 7, .inl (fun _ => 0)))] H := hP
  have hD : va_D A [(h, .inr (5, [.ref q1, .int 0, .ref q2, .ref q3, .ref q4, .ref q5, .int 0, .ref q6, .int 0, .ref q7, .int 0, .int 0, .ref q8, .ref q9, .ref q10, .null, .int 0, .int 0, .int 0, .int 0, .null])), (q1, .inl (cI, 200, .inl (fun _ => 0))), (q2, .inl (cI, 40, .inl (fun _ => 0))), (q3, .inl (cI, 40, .inl (fun _ => 0))), (q4, .inl (cI, 8, .inl (fun _ => 0))), (q5, .inl (cI, 64, .inl (fun _ => 0))), (q6, .inl (cI, 16, .inl (fun _ => 0))), (q7, .inl (cI, 8, .inl (fun _ => 0))), (q8, .inl (cI, 7, .inl (fun _ => 0))), (q9, .inl (cI, 7, .inl (fun _ => 0))), (q10, .inl (cI, 7, .inl (fun _ => 0)))] := hD
  refine lv_aload_n hx hb dX5_init_85 rfl (lv_at hl 0 rfl) ?_
  refine lv_bipush (v := 8) hx hb dX5_init_86 (by decide) ?_
  refine in_newI (N' := 8) hx hb (hts _ we_27) hK hP hD hS hA (by decide) (by decide) (Nat.le_of_ble_eq_true rfl) (Nat.le_of_ble_eq_true rfl) (Nat.le_of_ble_eq_true rfl) dX5_init_88 (fun q11 H hP hD hS => ?_)
  have hP : va_P D vwCl [(h, .inr (5, [.ref q1, .int 0, .ref q2, .ref q3, .ref q4, .ref q5, .int 0, .ref q6, .int 0, .ref q7, .int 0, .int 0, .ref q8, .ref q9, .ref q10, .null, .int 0, .int 0, .int 0, .int 0, .null])), (q1, .inl (cI, 200, .inl (fun _ => 0))), (q2, .inl (cI, 40, .inl (fun _ => 0))), (q3, .inl (cI, 40, .inl (fun _ => 0))), (q4, .inl (cI, 8, .inl (fun _ => 0))), (q5, .inl (cI, 64, .inl (fun _ => 0))), (q6, .inl (cI, 16, .inl (fun _ => 0))), (q7, .inl (cI, 8, .inl (fun _ => 0))), (q8, .inl (cI, 7, .inl (fun _ => 0))), (q9, .inl (cI, 7, .inl (fun _ => 0))), (q10, .inl (cI, 7, .inl (fun _ => 0))), (q11, .inl (cI, 8, .inl (fun _ => 0)))] H := hP
  have hD : va_D A [(h, .inr (5, [.ref q1, .int 0, .ref q2, .ref q3, .ref q4, .ref q5, .int 0, .ref q6, .int 0, .ref q7, .int 0, .int 0, .ref q8, .ref q9, .ref q10, .null, .int 0, .int 0, .int 0, .int 0, .null])), (q1, .inl (cI, 200, .inl (fun _ => 0))), (q2, .inl (cI, 40, .inl (fun _ => 0))), (q3, .inl (cI, 40, .inl (fun _ => 0))), (q4, .inl (cI, 8, .inl (fun _ => 0))), (q5, .inl (cI, 64, .inl (fun _ => 0))), (q6, .inl (cI, 16, .inl (fun _ => 0))), (q7, .inl (cI, 8, .inl (fun _ => 0))), (q8, .inl (cI, 7, .inl (fun _ => 0))), (q9, .inl (cI, 7, .inl (fun _ => 0))), (q10, .inl (cI, 7, .inl (fun _ => 0))), (q11, .inl (cI, 8, .inl (fun _ => 0)))] := hD
  refine va_putF (D := D) (ci := 5) (v := .ref q11) (ty := .array .int) (C := RX5) (T := TX5) (N := 21) hx hb hts iw_X5 tyX5 tyX5_ok nmX5 hown hK hP hD hS 0 rfl rfl 15 (by decide) (hts _ wd_333) (fun _ h9 => h9) rfl hin rfl (by decide +kernel) rfl rfl (Nat.le_of_ble_eq_true rfl) dX5_init_90 (fun H locs hP hD hS => ?_)
  have hP : va_P D vwCl [(h, .inr (5, [.ref q1, .int 0, .ref q2, .ref q3, .ref q4, .ref q5, .int 0, .ref q6, .int 0, .ref q7, .int 0, .int 0, .ref q8, .ref q9, .ref q10, .ref q11, .int 0, .int 0, .int 0, .int 0, .null])), (q1, .inl (cI, 200, .inl (fun _ => 0))), (q2, .inl (cI, 40, .inl (fun _ => 0))), (q3, .inl (cI, 40, .inl (fun _ => 0))), (q4, .inl (cI, 8, .inl (fun _ => 0))), (q5, .inl (cI, 64, .inl (fun _ => 0))), (q6, .inl (cI, 16, .inl (fun _ => 0))), (q7, .inl (cI, 8, .inl (fun _ => 0))), (q8, .inl (cI, 7, .inl (fun _ => 0))), (q9, .inl (cI, 7, .inl (fun _ => 0))), (q10, .inl (cI, 7, .inl (fun _ => 0))), (q11, .inl (cI, 8, .inl (fun _ => 0)))] H := hP
  have hD : va_D A [(h, .inr (5, [.ref q1, .int 0, .ref q2, .ref q3, .ref q4, .ref q5, .int 0, .ref q6, .int 0, .ref q7, .int 0, .int 0, .ref q8, .ref q9, .ref q10, .ref q11, .int 0, .int 0, .int 0, .int 0, .null])), (q1, .inl (cI, 200, .inl (fun _ => 0))), (q2, .inl (cI, 40, .inl (fun _ => 0))), (q3, .inl (cI, 40, .inl (fun _ => 0))), (q4, .inl (cI, 8, .inl (fun _ => 0))), (q5, .inl (cI, 64, .inl (fun _ => 0))), (q6, .inl (cI, 16, .inl (fun _ => 0))), (q7, .inl (cI, 8, .inl (fun _ => 0))), (q8, .inl (cI, 7, .inl (fun _ => 0))), (q9, .inl (cI, 7, .inl (fun _ => 0))), (q10, .inl (cI, 7, .inl (fun _ => 0))), (q11, .inl (cI, 8, .inl (fun _ => 0)))] := hD
  refine lv_aload_n hx hb dX5_init_93 rfl (lv_at hl 0 rfl) ?_
  refine lv_bipush (v := 8) hx hb dX5_init_94 (by decide) ?_
  refine in_newI (N' := 8) hx hb (hts _ we_27) hK hP hD hS hA (by decide) (by decide) (Nat.le_of_ble_eq_true rfl) (Nat.le_of_ble_eq_true rfl) (Nat.le_of_ble_eq_true rfl) dX5_init_96 (fun q12 H hP hD hS => ?_)
  have hP : va_P D vwCl [(h, .inr (5, [.ref q1, .int 0, .ref q2, .ref q3, .ref q4, .ref q5, .int 0, .ref q6, .int 0, .ref q7, .int 0, .int 0, .ref q8, .ref q9, .ref q10, .ref q11, .int 0, .int 0, .int 0, .int 0, .null])), (q1, .inl (cI, 200, .inl (fun _ => 0))), (q2, .inl (cI, 40, .inl (fun _ => 0))), (q3, .inl (cI, 40, .inl (fun _ => 0))), (q4, .inl (cI, 8, .inl (fun _ => 0))), (q5, .inl (cI, 64, .inl (fun _ => 0))), (q6, .inl (cI, 16, .inl (fun _ => 0))), (q7, .inl (cI, 8, .inl (fun _ => 0))), (q8, .inl (cI, 7, .inl (fun _ => 0))), (q9, .inl (cI, 7, .inl (fun _ => 0))), (q10, .inl (cI, 7, .inl (fun _ => 0))), (q11, .inl (cI, 8, .inl (fun _ => 0))), (q12, .inl (cI, 8, .inl (fun _ => 0)))] H := hP
  have hD : va_D A [(h, .inr (5, [.ref q1, .int 0, .ref q2, .ref q3, .ref q4, .ref q5, .int 0, .ref q6, .int 0, .ref q7, .int 0, .int 0, .ref q8, .ref q9, .ref q10, .ref q11, .int 0, .int 0, .int 0, .int 0, .null])), (q1, .inl (cI, 200, .inl (fun _ => 0))), (q2, .inl (cI, 40, .inl (fun _ => 0))), (q3, .inl (cI, 40, .inl (fun _ => 0))), (q4, .inl (cI, 8, .inl (fun _ => 0))), (q5, .inl (cI, 64, .inl (fun _ => 0))), (q6, .inl (cI, 16, .inl (fun _ => 0))), (q7, .inl (cI, 8, .inl (fun _ => 0))), (q8, .inl (cI, 7, .inl (fun _ => 0))), (q9, .inl (cI, 7, .inl (fun _ => 0))), (q10, .inl (cI, 7, .inl (fun _ => 0))), (q11, .inl (cI, 8, .inl (fun _ => 0))), (q12, .inl (cI, 8, .inl (fun _ => 0)))] := hD
  refine va_putF (D := D) (ci := 5) (v := .ref q12) (ty := .array .int) (C := RX5) (T := TX5) (N := 21) hx hb hts iw_X5 tyX5 tyX5_ok nmX5 hown hK hP hD hS 0 rfl rfl 20 (by decide) (hts _ wd_383) (fun _ h9 => h9) rfl hin rfl (by decide +kernel) rfl rfl (Nat.le_of_ble_eq_true rfl) dX5_init_98 (fun H locs hP hD hS => ?_)
  have hP : va_P D vwCl [(h, .inr (5, [.ref q1, .int 0, .ref q2, .ref q3, .ref q4, .ref q5, .int 0, .ref q6, .int 0, .ref q7, .int 0, .int 0, .ref q8, .ref q9, .ref q10, .ref q11, .int 0, .int 0, .int 0, .int 0, .ref q12])), (q1, .inl (cI, 200, .inl (fun _ => 0))), (q2, .inl (cI, 40, .inl (fun _ => 0))), (q3, .inl (cI, 40, .inl (fun _ => 0))), (q4, .inl (cI, 8, .inl (fun _ => 0))), (q5, .inl (cI, 64, .inl (fun _ => 0))), (q6, .inl (cI, 16, .inl (fun _ => 0))), (q7, .inl (cI, 8, .inl (fun _ => 0))), (q8, .inl (cI, 7, .inl (fun _ => 0))), (q9, .inl (cI, 7, .inl (fun _ => 0))), (q10, .inl (cI, 7, .inl (fun _ => 0))), (q11, .inl (cI, 8, .inl (fun _ => 0))), (q12, .inl (cI, 8, .inl (fun _ => 0)))] H := hP
  have hD : va_D A [(h, .inr (5, [.ref q1, .int 0, .ref q2, .ref q3, .ref q4, .ref q5, .int 0, .ref q6, .int 0, .ref q7, .int 0, .int 0, .ref q8, .ref q9, .ref q10, .ref q11, .int 0, .int 0, .int 0, .int 0, .ref q12])), (q1, .inl (cI, 200, .inl (fun _ => 0))), (q2, .inl (cI, 40, .inl (fun _ => 0))), (q3, .inl (cI, 40, .inl (fun _ => 0))), (q4, .inl (cI, 8, .inl (fun _ => 0))), (q5, .inl (cI, 64, .inl (fun _ => 0))), (q6, .inl (cI, 16, .inl (fun _ => 0))), (q7, .inl (cI, 8, .inl (fun _ => 0))), (q8, .inl (cI, 7, .inl (fun _ => 0))), (q9, .inl (cI, 7, .inl (fun _ => 0))), (q10, .inl (cI, 7, .inl (fun _ => 0))), (q11, .inl (cI, 8, .inl (fun _ => 0))), (q12, .inl (cI, 8, .inl (fun _ => 0)))] := hD
  have hX := hX.kept (H1 := H) (fun k9 q9 h9 => by
    obtain ⟨hk9, rfl⟩ := cs_of h9
    exact hS.2.1 _ (hXl k9 hk9) (hXA k9 hk9))
  obtain ⟨hi13, hA13⟩ := in_inj (L := [h, q1, q2, q3, q4, q5, q6, q7, q8, q9, q10, q11, q12]) rfl hD
  have hi13 : ∀ i j, i < 13 → j < 13 → List.getD [h, q1, q2, q3, q4, q5, q6, q7, q8, q9, q10, q11, q12] i 0 = List.getD [h, q1, q2, q3, q4, q5, q6, q7, q8, q9, q10, q11, q12] j 0 → i = j := hi13
  have hA13 : ∀ i, i < 13 → A (List.getD [h, q1, q2, q3, q4, q5, q6, q7, q8, q9, q10, q11, q12] i 0) := hA13
  have hP53 : va_P D vwCl (cs 53 (adx adr [h, q1, q2, q3, q4, q5, q6, q7, q8, q9, q10, q11, q12]) cI cC cG σ1) H := fun k9 q9 h9 => by
    obtain ⟨hk9, rfl⟩ := cs_of h9
    by_cases c9 : k9 < 40
    · rw [adx_lo c9, cE_adr (adr := adr) (fun j => adx_lo (lk_40 k9 j c9))]
      exact hX k9 _ (cs_at c9)
    · rw [cE_same (hz k9 (by omega))]
      obtain ⟨n9, rfl⟩ : ∃ n9, k9 = n9 + 40 := ⟨k9 - 40, by omega⟩
      exact (match n9, hk9 with
      | 0, _ => hP 0 _ rfl
      | 1, _ => hP 1 _ rfl
      | 2, _ => hP 2 _ rfl
      | 3, _ => hP 3 _ rfl
      | 4, _ => hP 4 _ rfl
      | 5, _ => hP 5 _ rfl
      | 6, _ => hP 6 _ rfl
      | 7, _ => hP 7 _ rfl
      | 8, _ => hP 8 _ rfl
      | 9, _ => hP 9 _ rfl
      | 10, _ => hP 10 _ rfl
      | 11, _ => hP 11 _ rfl
      | 12, _ => hP 12 _ rfl
      | n + 13, h53 => absurd h53 (by omega))
  have h40 : adx adr [h, q1, q2, q3, q4, q5, q6, q7, q8, q9, q10, q11, q12] 40 = h := rfl
  have hinj : ∀ i j, i < 53 → j < 53 → adx adr [h, q1, q2, q3, q4, q5, q6, q7, q8, q9, q10, q11, q12] i = adx adr [h, q1, q2, q3, q4, q5, q6, q7, q8, q9, q10, q11, q12] j → i = j := fun i j hi hj e => by
    by_cases ci : i < 40 <;> by_cases cj : j < 40
    · rw [adx_lo ci, adx_lo cj] at e
      exact hinj i j ci cj e
    · rw [adx_lo ci, adx_hi cj] at e
      have := hXA i ci
      rw [e] at this
      exact absurd (hA13 (j - 40) (by omega)) this
    · rw [adx_hi ci, adx_lo cj] at e
      have := hXA j cj
      rw [← e] at this
      exact absurd (hA13 (i - 40) (by omega)) this
    · rw [adx_hi ci, adx_hi cj] at e
      have := hi13 (i - 40) (j - 40) (by omega) (by omega) e
      omega
  have hAd : ∀ i, i < 53 → imA adr h s.heap.size (adx adr [h, q1, q2, q3, q4, q5, q6, q7, q8, q9, q10, q11, q12] i) := fun i hi => by
    by_cases ci : i < 40
    · rw [adx_lo ci]
      exact Or.inl ⟨i, ci, rfl⟩
    · rw [adx_hi ci]
      rcases hAs _ (hA13 (i - 40) (by omega)) with z | z
      · exact Or.inr (Or.inl z)
      · exact Or.inr (Or.inr z)
  have hlo : ∀ i, i < 40 → adx adr [h, q1, q2, q3, q4, q5, q6, q7, q8, q9, q10, q11, q12] i = adr i := fun i hi => adx_lo hi
  have hS : va_S (imA adr h s.heap.size) s.heap H locs := by
    have hsub : ∀ q, A q → imA adr h s.heap.size q := fun q z => by
      rcases hAs q z with z | z
      · exact Or.inr (Or.inl z)
      · exact Or.inr (Or.inr z)
    exact ⟨hS.1, fun q h1 h2 => hS.2.1 q h1 (fun z => h2 (hsub q z)), fun l9 hl9 => hsub _ (hS.2.2 l9 hl9)⟩
  generalize adx adr [h, q1, q2, q3, q4, q5, q6, q7, q8, q9, q10, q11, q12] = u at hP53 h40 hinj hAd hlo
  generalize hBe : imA adr h s.heap.size = B0 at hAd hS ⊢
  obtain ⟨n, hn⟩ := (RunF_iff (hF := hF)).mp (show RunF cdm nlm hF 78 101 [vR 40] [] σ1 = some (vI 0, σ2) from hrun)
  refine W.widen (k := 12) (n := 413) (Nat.le_of_ble_eq_true rfl) (Nat.le_of_ble_eq_true rfl) ?_
  refine am_body 53 78 (allG_ss 78 (by decide)) p l e _ s m _ below meth c _ 12 413 u D cI cC cG B0 s.heap σ1 (vI 0, σ2) ⟨hx, hb, hml, hown, hts, hK, (by decide : mFr 78 ≤ 2), (by decide : mLo 78 ≤ 44), Nat.le_refl _, Nat.le_refl _, hnw, hinj, hAd, lk_53, by decide⟩ (fun z => absurd z (by decide)) (fun m' as' σ' q hq hf h1 h2 h3 => am_all 53 lk_53 (by decide) l u D cI cC cG hinj m' as' σ' q hq (by have : mFr 78 = 2 := rfl; omega) h1 h2 h3) (fun pc' lsA' H' locs' st' hP' hS' _ hra => ?_) n 101 [vR 40] [] σ1 ls H locs hn (fun _ z => absurd z List.not_mem_nil) ⟨by rw [← h40] at hl; exact hl, fun j x9 h9 => ?_, hP53, hS, fun _ _ _ => rfl, low_c (Or.inl (by decide)) (fun _ z => absurd z List.not_mem_nil)⟩
  · rcases hra with ⟨h1, h2, h3, rfl⟩ | ⟨x9, ty, h1, -⟩ | ⟨q9, C9, h1, -⟩
    · exact W.vret hx hb hr (fun t ht hW => ⟨⟨u, rfl, trivial, hlo, h40, hinj, hAd, by rw [ht]; exact hP'⟩, hS'.F ht⟩) hS'.2.2 h3
    · exact absurd h1 (by decide)
    · exact absurd h1 (by decide)
  · exfalso
    rcases j with _ | j
    · cases h9
    · cases h9
