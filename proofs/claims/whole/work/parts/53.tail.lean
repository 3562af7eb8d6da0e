/-! THE CONSTRUCTOR OF SecondOboe. Printed by wip/whole/gen13.py -/
theorem lk_lt (N : Nat) (hN : N ≤ 53) (h : ∀ i, i < N → ∀ x ∈ lkL.getD i [], x < N) (h0 : 0 < N) : ∀ i k, i < N → lk i k < N := fun i k hi => by
  unfold lk
  rw [List.getD_eq_getElem?_getD (l := lkL.getD i [])]
  cases hk : (lkL.getD i [])[k]? with
  | none => exact h0
  | some x => exact h i hi x (List.mem_of_getElem? hk)
theorem lk_40 : ∀ i k, i < 40 → lk i k < 40 := lk_lt 40 (by decide) (by decide +kernel) (by decide)
theorem lk_53 : ∀ i k, i < 53 → lk i k < 53 := lk_lt 53 (by decide) (by decide +kernel) (by decide)
theorem mn_2 {r : Nat → Nat} {f : Nat → va_E} {v : va_E} : va_pl ([] ++ (List.range 2).map r) (vr_up f ((List.range 2).map r) v) = [(r 0, v), (r 1, v)] := by
  show [(r 0, vr_up f [r 0, r 1] v (r 0)), (r 1, vr_up f [r 0, r 1] v (r 1))] = _
  rw [vr_up_in (a := r 0) List.mem_cons_self, vr_up_in (a := r 1) (List.mem_cons_of_mem _ List.mem_cons_self)]
theorem vp_cell2 {cA : ClassId} {f g : Nat → Option Nat} {n : Nat} (h : ∀ j, j < n → f j = g j) : vp_cell cA (n, .inr (.inr (.inr (.inr f)))) = vp_cell cA (n, .inr (.inr (.inr (.inr g)))) := by
  have e : (fun j : Fin n => va_rf (f j.val)) = fun j : Fin n => va_rf (g j.val) := funext fun j => by rw [h _ j.isLt]
  rw [vp_cell_q, vp_cell_q]
  unfold arrV
  rw [e]
theorem in_inj {A : Nat → Prop} {W : va_W} {L : List Nat} (hL : W.map Prod.fst = L) (hD : va_D A W) : (∀ i j, i < L.length → j < L.length → L.getD i 0 = L.getD j 0 → i = j) ∧ ∀ i, i < L.length → A (L.getD i 0) := by
  subst hL
  have key : ∀ i, i < (W.map Prod.fst).length → ∃ x, W[i]? = some x ∧ (W.map Prod.fst).getD i 0 = x.1 := fun i hi => by
    rw [List.length_map] at hi
    refine ⟨W[i], List.getElem?_eq_getElem hi, ?_⟩
    rw [List.getD_eq_getElem?_getD, List.getElem?_map, List.getElem?_eq_getElem hi]
    rfl
  refine ⟨fun i j hi hj h => ?_, fun i hi => ?_⟩
  · obtain ⟨x, x1, x2⟩ := key i hi
    obtain ⟨y, y1, y2⟩ := key j hj
    exact hD.1 i j x y x1 y1 (by rw [← x2, ← y2]; exact h)
  · obtain ⟨x, x1, x2⟩ := key i hi
    rw [x2]
    exact hD.2 i x x1
def ad (L : List Nat) : Nat → Nat := fun i => L.getD i 0
/-- rows of int rows: their class is over that of int rows -/
def AoI (U : State) : Prop := (Cond.arrayOver (.array .int)).before #[] U = true
theorem AoI.use {A : Array Value} {U : State} (h : AoI U) : (Cond.arrayOver (.array .int)).before A U = true := h
theorem AoI.same {u U : State} (hv : U.vm = u.vm) (h : AoI u) : AoI U := by
  unfold AoI at h ⊢
  simp only [Cond.before, Cond.holds, Cond.value, hv] at h ⊢
  exact h
theorem AoI.warm {s U : State} (hW : s.WarmedH U.vm) (h : AoI s) : AoI U := AoI.same (u := s.setVm U.vm) rfl ((Cond.arrayOver_setVmC hW.alike _).trans h)
/-- the store while the text is written -/
def wt : Nat → Sg
  | 0 => Z0
  | k + 1 => up (up (wt k) 12 k (strL.getD k 0)) 11 1 ((k + 1 : Nat) : Int)
theorem wt_11 : ∀ k, wt k 11 1 = (k : Int)
  | 0 => rfl
  | k + 1 => by
    show up (up (wt k) 12 k (strL.getD k 0)) 11 1 ((k + 1 : Nat) : Int) 11 1 = _
    simp [up_at]
theorem wt_app {k : Nat} (hk : k < 67) : Cal 14 [vR 11, vI (strL.getD k 0)] (wt k) = some (vI 1, wt (k + 1)) := x4_step hk (wt_11 k)
theorem wt_12 : ∀ k, k ≤ 67 → ∀ j, j < k → wt k 12 j = ((dI 6 j : Nat) : Int)
  | 0, _ => fun j hj => absurd hj (Nat.not_lt_zero j)
  | k + 1, hk => fun j hj => by
    show up (up (wt k) 12 k (strL.getD k 0)) 11 1 ((k + 1 : Nat) : Int) 12 j = _
    rw [up_p _ _ _ (by decide), up_j]
    by_cases c : j = k
    · rw [if_pos c, c, (dI_6 k (by omega)).1]
    · rw [if_neg c]
      exact wt_12 k (by omega) j (by omega)
theorem wt_C : ∀ k, FrC Z0 (wt k)
  | 0 => FrC.rf Z0
  | k + 1 => fun q hq => by
    show up (up (wt k) 12 k (strL.getD k 0)) 11 1 ((k + 1 : Nat) : Int) q = _
    rw [up_ne (by omega), up_ne (by omega)]
    exact wt_C k q hq
theorem wt_text : TextI (wt 67) dI := ⟨wt_11 67, wt_12 67 (Nat.le_refl _)⟩
theorem wt_lay : ∃ σ2, Cal 31 [vR 0] (wt 67) = some (vI 1, σ2) ∧ InvC (up σ2 11 1 0) d1 ∧ OkD d1 ∧ FrC Z0 (up σ2 11 1 0) := by
  obtain ⟨σ2, b1, b2, b3, b4⟩ := (c_layText ok_I wt_text).1 ⟨by rw [rda_I], by rw [rda_I]; exact lok_12⟩
  obtain ⟨-, c2, c3⟩ := c_wipe b2
  exact ⟨σ2, b1, c2, ok_wipe b4, ((wt_C 67).tr b3).tr c3⟩
theorem we_40 : Cond.methodLink "SecondOboe" 3 ⟨"java/lang/Object", "<init>", "()V"⟩ ∈ gwl := gw_in (List.mem_append_right _ (List.mem_of_getElem? (i := 20) (by decide +kernel))) (by first | rfl | decide +kernel)
theorem we_41 : Cond.classLink "SecondOboe" 9 "SecondOboe$Reader" ∈ gwl := gw_in (List.mem_append_right _ (List.mem_of_getElem? (i := 23) (by decide +kernel))) (by first | rfl | decide +kernel)
theorem we_42 : Cond.instantiable "SecondOboe$Reader" 4 ∈ gwl := gw_in (List.mem_append_right _ (List.mem_of_getElem? (i := 24) (by decide +kernel))) (by first | rfl | decide +kernel)
theorem we_43 : Cond.code yX2_init cX2_init 1 none ∈ gwl := gw_in (List.mem_append_right _ (List.mem_of_getElem? (i := 27) (by decide +kernel))) (by first | rfl | decide +kernel)
theorem we_44 : Cond.instanceMethod yX2_init ∈ gwl := gw_in (List.mem_append_right _ (List.mem_of_getElem? (i := 26) (by decide +kernel))) (by first | rfl | decide +kernel)
theorem we_45 : Cond.classLink "SecondOboe" 16 "SecondOboe$Band" ∈ gwl := gw_in (List.mem_append_right _ (List.mem_of_getElem? (i := 95) (by decide +kernel))) (by first | rfl | decide +kernel)
theorem we_46 : Cond.classLink "SecondOboe" 27 "SecondOboe$Evening" ∈ gwl := gw_in (List.mem_append_right _ (List.mem_of_getElem? (i := 97) (by decide +kernel))) (by first | rfl | decide +kernel)
theorem we_47 : Cond.classLink "SecondOboe" 34 "SecondOboe$Survey" ∈ gwl := gw_in (List.mem_append_right _ (List.mem_of_getElem? (i := 123) (by decide +kernel))) (by first | rfl | decide +kernel)
theorem we_48 : Cond.instantiable "SecondOboe$Survey" 11 ∈ gwl := gw_in (List.mem_append_right _ (List.mem_of_getElem? (i := 124) (by decide +kernel))) (by first | rfl | decide +kernel)
theorem we_49 : Cond.code yX3_init cX3_init 1 none ∈ gwl := gw_in (List.mem_append_right _ (List.mem_of_getElem? (i := 127) (by decide +kernel))) (by first | rfl | decide +kernel)
theorem we_50 : Cond.instanceMethod yX3_init ∈ gwl := gw_in (List.mem_append_right _ (List.mem_of_getElem? (i := 126) (by decide +kernel))) (by first | rfl | decide +kernel)
theorem we_51 : Cond.classLink "SecondOboe" 59 "[[I" ∈ gwl := gw_in (List.mem_append_right _ (List.mem_of_getElem? (i := 173) (by decide +kernel))) (by first | rfl | decide +kernel)
theorem we_52 : Cond.methodLink "SecondOboe" 69 yJ0_length_8abf5 ∈ gwl := gw_in (List.mem_append_right _ (List.mem_of_getElem? (i := 176) (by decide +kernel))) (by first | rfl | decide +kernel)
theorem we_53 : Cond.instanceMethod yJ0_length_8abf5 ∈ gwl := gw_in (List.mem_append_right _ (List.mem_of_getElem? (i := 177) (by decide +kernel))) (by first | rfl | decide +kernel)
theorem we_54 : Cond.selects "java/lang/String" yJ0_length_8abf5 yJ0_length_8abf5 ∈ gwl := gw_in (List.mem_append_right _ (List.mem_of_getElem? (i := 178) (by decide +kernel))) (by first | rfl | decide +kernel)
theorem we_55 : Cond.code yJ0_length_8abf5 cJ0_length_8abf5 1 (some .int) ∈ gwl := gw_in (List.mem_append_right _ (List.mem_of_getElem? (i := 179) (by decide +kernel))) (by first | rfl | decide +kernel)
theorem we_56 : Cond.code yX4_layText cX4_layText 1 (some .boolean) ∈ gwl := gw_in (List.mem_append_right _ (List.mem_of_getElem? (i := 231) (by decide +kernel))) (by first | rfl | decide +kernel)
theorem we_57 : Cond.methodLink "SecondOboe" 75 yJ0_charAt_5068e ∈ gwl := gw_in (List.mem_append_right _ (List.mem_of_getElem? (i := 186) (by decide +kernel))) (by first | rfl | decide +kernel)
theorem we_58 : Cond.instanceMethod yJ0_charAt_5068e ∈ gwl := gw_in (List.mem_append_right _ (List.mem_of_getElem? (i := 187) (by decide +kernel))) (by first | rfl | decide +kernel)
theorem we_59 : Cond.selects "java/lang/String" yJ0_charAt_5068e yJ0_charAt_5068e ∈ gwl := gw_in (List.mem_append_right _ (List.mem_of_getElem? (i := 188) (by decide +kernel))) (by first | rfl | decide +kernel)
theorem we_60 : Cond.code yJ0_charAt_5068e cJ0_charAt_5068e 2 (some .char) ∈ gwl := gw_in (List.mem_append_right _ (List.mem_of_getElem? (i := 189) (by decide +kernel))) (by first | rfl | decide +kernel)
theorem we_61 : Cond.code yX2_append cX2_append 2 (some .boolean) ∈ gwl := gw_in (List.mem_append_right _ (List.mem_of_getElem? (i := 227) (by decide +kernel))) (by first | rfl | decide +kernel)
section XT
variable {p : Program} {l : Launch} {e : Env} {R : Room} {s : State} {m : MethodId} {args : Array Value} {below : List Frame} {meth : Method} {c : Code} {cells slots : Nat} {Q : State → Prop} {D : va_G} {A : Nat → Prop} {cI cC cG : ClassId} {adr : Nat → Nat} {aS aV : Nat} {σ2 : Sg}
set_option maxHeartbeats 4000000 in
set_option maxRecDepth 100000 in
theorem x4_tail (hx : p.tables.exec = Jvm.exec) (hb : c.code = cX4_init) (hml : c.maxLocals = 2) (hown : s.vm.findClass RX4 = some m.cls) (hts : ∀ w ∈ gwl, w.before args s = true) (hK : va_K D vwCl (tys3 cI cC cG) s) (hN : NsW s) (hinj : ∀ i j, i < 40 → j < 40 → adr i = adr j → i = j) (hAd : ∀ i, i < 40 → A (adr i)) (hRf : 7 ≤ R.frames) (hRl : 120 ≤ R.locals) (hce : cells ≤ R.cells) (hsl : slots ≤ R.slots) (hst : StF aS aV A s s.heap) (hvk : vk_R RX4 67 "i0,0,2;i1,2,5;i2,0,3;i3,3,4;i1,0,6;b15,1;b5,1;b14,0;b11,1;s2;s0;g2;" aS s) (hlay : Cal 31 [vR 0] (wt 67) = some (vI 1, σ2))
    (kk : ∀ (H : Heap) (locs : List Loc) (ls : Array Slot), va_P D vwCl (cs 40 adr cI cC cG (up σ2 11 1 0)) H → va_S A s.heap H locs → W p l e R s m args below meth c H locs cells slots Q (F0 m 169 ls [])) :
    ∀ (r k : Nat) (H : Heap) (locs : List Loc) (ls : Array Slot), k + r = 67 → va_P D vwCl (cs 40 adr cI cC cG (wt k)) H → va_S A s.heap H locs → lv_has ls 2 [(0, .ref (adr 0)), (1, .int (nI k))] → W p l e R s m args below meth c H locs cells slots Q (F0 m 127 ls []) := by
  have hnw : va_Nw nestW s := hN _ (List.mem_of_getElem? (i := 6) rfl)
  intro r
  induction r with
  | zero =>
    intro k H locs ls hk hP hS hl
    have hk : k = 67 := by omega
    subst hk
    have hF : StF aS aV nowA s _ := (hst.kept hS.2.1).narrow (fun _ z => z.elim)
    refine lv_iload_n hx hb dX4_init_127 rfl (lv_at hl 1 rfl) ?_
    refine va_ldcS hx hb hown hvk dX4_init_128 ?_
    refine in_after (v0 := some (.int 67)) (va_runV (As := []) (rest := [.int (nI 67)]) ⟨hx, hb, hml, hown, hts⟩ (jc_length l aS aV) (cwV 0 hts (own := RX4) (index := 69) (C := RJ0) (gW_V we_52 we_53 we_54 we_6 we_55) rfl rfl rfl (by decide +kernel) ⟨by show 1 + 1 ≤ R.frames; omega, by show 8 + (1 + 11) + 20 ≤ R.locals; omega⟩) ⟨StP_blind, (by obtain ⟨cell, h1, h2, h3, -⟩ := hF.1; exact ⟨cell, h1, h2, h3⟩), fun U hU hW => ⟨rfl, by show StF aS aV nowA U U.heap; rw [hU]; exact hF.moved hW.alike⟩⟩ rfl rfl hl.1 rfl (lv_room (Nat.le_of_ble_eq_true rfl)) dX4_init_130 ⟨hce, hsl⟩) hS (fun H1 locs1 hz hk1 hS => ?_)
    have hP := hP.kept (H1 := H1) (fun k9 q9 h9 => hk1 _ (hP k9 q9 h9).lt)
    refine lv_icmp_ge (tgt := 156) hx hb dX4_init_133 (by decide) (fun _ => ?_) (fun z => absurd (by decide : (67 : Int32) ≤ nI 67) z)
    refine lv_aload_n hx hb dX4_init_156 rfl (lv_at hl 0 rfl) ?_
    obtain ⟨hM, -⟩ := am_all 40 lk_40 (Nat.le_refl 40) l adr D cI cC cG hinj 31 _ _ _ hlay (by decide) (by decide) (by decide) (low_c (Or.inl (by decide)) (fun _ z => absurd z List.not_mem_nil))
    refine am_after (v0 := some (.int (Int32.ofInt 1))) (va_runV (As := []) (rest := []) ⟨hx, hb, hml, hown, hts⟩ hM (cwV 0 hts (own := RX4) (index := 83) (C := RX4) (gW_V (y := mY 31) (c := mB 31) (n := nlm 31) (r := mRet 31) wd_186 wd_187 wd_188 wd_113 we_56) rfl rfl rfl (by decide +kernel) ⟨by show mFr 31 + 1 ≤ R.frames; have : mFr 31 = 4 := rfl; omega, by show 8 + (nlm 31 + 11) + mLo 31 ≤ R.locals; have : mLo 31 = 92 := rfl; have : nlm 31 = 1 := rfl; omega⟩) ⟨Ok_blind, va_recv hK hP (ci := 4) rfl ((cs_at (N := 40) (adr := adr) (cI := cI) (cC := cC) (cG := cG) (σ := wt 67) (p := 0) (by decide)).trans (by rw [cE_o (c := 4) rfl (by decide)])), fun U hU hW => ⟨rfl, by rw [hU]; exact hP, va_K.moved hW.alike hK, va_Nw.warmM hW hnw⟩⟩ rfl rfl hl.1 rfl (lv_room (Nat.le_of_ble_eq_true rfl)) dX4_init_157 ⟨hce, hsl⟩) hS (AP_sub hAd) (fun H2 locs2 hP hS => ?_)
    refine lv_pop hx hb dX4_init_160 rfl ?_
    refine lv_aload_n hx hb dX4_init_161 rfl (lv_at hl 0 rfl) ?_
    refine va_get hx hb hts iw_X4 hown hK hP 0 ((cs_at (N := 40) (adr := adr) (cI := cI) (cC := cC) (cG := cG) (σ := σ2) (p := 0) (by decide)).trans (by rw [cE_o (c := 4) rfl (by decide)])) rfl 0 (by decide) (hts _ wd_156) (fun _ z => z) (v := .ref (adr 11)) (fsO_at (adr := adr) (σ := σ2) (p := 0) (c := 4) (k := 0) (by decide)) dX4_init_162 ?_
    refine lv_iconst (v := Int32.ofInt 0) hx hb dX4_init_165 rfl ?_
    refine va_put hx hb hts iw_X2 tyX2 tyX2_ok nmX2 hown hK hP (cs_D hinj hAd) hS 11 ((cs_at (N := 40) (adr := adr) (cI := cI) (cC := cC) (cG := cG) (σ := σ2) (p := 11) (by decide)).trans (by rw [cE_o (c := 2) rfl (by decide)])) rfl 1 (by decide) (hts _ wd_185) (fun _ z => z) rfl (ty := .int) (by decide +kernel) rfl rfl (by rw [fsO_len]; decide) dX4_init_166 (fun H3 locs3 hP hD hS => ?_)
    rw [cs_set (by decide) (fun q hq => up_ne hq) (cE_upF (p := 11) (c := 2) (k := 1) (x := 0) rfl (by decide) (by decide) rfl)] at hP
    exact kk H3 locs3 ls hP hS
  | succ r ih =>
    intro k H locs ls hk hP hS hl
    have hk6 : k < 67 := by omega
    have hF : StF aS aV nowA s _ := (hst.kept hS.2.1).narrow (fun _ z => z.elim)
    refine lv_iload_n hx hb dX4_init_127 rfl (lv_at hl 1 rfl) ?_
    refine va_ldcS hx hb hown hvk dX4_init_128 ?_
    refine in_after (v0 := some (.int 67)) (va_runV (As := []) (rest := [.int (nI k)]) ⟨hx, hb, hml, hown, hts⟩ (jc_length l aS aV) (cwV 0 hts (own := RX4) (index := 69) (C := RJ0) (gW_V we_52 we_53 we_54 we_6 we_55) rfl rfl rfl (by decide +kernel) ⟨by show 1 + 1 ≤ R.frames; omega, by show 8 + (1 + 11) + 20 ≤ R.locals; omega⟩) ⟨StP_blind, (by obtain ⟨cell, h1, h2, h3, -⟩ := hF.1; exact ⟨cell, h1, h2, h3⟩), fun U hU hW => ⟨rfl, by show StF aS aV nowA U U.heap; rw [hU]; exact hF.moved hW.alike⟩⟩ rfl rfl hl.1 rfl (lv_room (Nat.le_of_ble_eq_true rfl)) dX4_init_130 ⟨hce, hsl⟩) hS (fun H1 locs1 hz hk1 hS => ?_)
    have hP := hP.kept (H1 := H1) (fun k9 q9 h9 => hk1 _ (hP k9 q9 h9).lt)
    refine lv_icmp_ge (tgt := 156) hx hb dX4_init_133 (by decide) (fun z => absurd (show nI 67 ≤ nI k from z) (nI_ge hk6 (by decide))) (fun _ => ?_)
    refine lv_aload_n hx hb dX4_init_136 rfl (lv_at hl 0 rfl) ?_
    refine va_get hx hb hts iw_X4 hown hK hP 0 ((cs_at (N := 40) (adr := adr) (cI := cI) (cC := cC) (cG := cG) (σ := wt k) (p := 0) (by decide)).trans (by rw [cE_o (c := 4) rfl (by decide)])) rfl 0 (by decide) (hts _ wd_156) (fun _ z => z) (v := .ref (adr 11)) (fsO_at (adr := adr) (σ := wt k) (p := 0) (c := 4) (k := 0) (by decide)) dX4_init_137 ?_
    refine va_ldcS hx hb hown hvk dX4_init_140 ?_
    refine lv_iload_n hx hb dX4_init_142 rfl (lv_at hl 1 rfl) ?_
    have hF : StF aS aV nowA s _ := (hst.kept hS.2.1).narrow (fun _ z => z.elim)
    refine in_after (v0 := some (.int (Int32.ofInt (strL.getD k 0)))) (va_runV (As := [.int (nI k)]) (rest := [.ref (adr 11)]) ⟨hx, hb, hml, hown, hts⟩ (jc_charAt l aS aV k hk6) (cwV 1 hts (own := RX4) (index := 75) (C := RJ0) (gW_V we_57 we_58 we_59 we_6 we_60) rfl rfl rfl (by decide +kernel) ⟨by show 3 + 1 ≤ R.frames; omega, by show 8 + (2 + 11) + 64 ≤ R.locals; omega⟩) ⟨StP_blind, (by obtain ⟨cell, h1, h2, h3, -⟩ := hF.1; exact ⟨cell, h1, h2, h3⟩), fun U hU hW => ⟨rfl, by show StF aS aV nowA U U.heap; rw [hU]; exact hF.moved hW.alike⟩⟩ rfl rfl hl.1 rfl (lv_room (Nat.le_of_ble_eq_true rfl)) dX4_init_143 ⟨hce, hsl⟩) hS (fun H1 locs1 hz hk1 hS => ?_)
    have hP := hP.kept (H1 := H1) (fun k9 q9 h9 => hk1 _ (hP k9 q9 h9).lt)
    obtain ⟨hM, -⟩ := am_all 40 lk_40 (Nat.le_refl 40) l adr D cI cC cG hinj 14 _ _ _ (wt_app hk6) (by decide) rfl (by decide : 2 ≤ nlm 14) (low_c (Or.inl (by decide)) (low_i (fun _ z => absurd z List.not_mem_nil)))
    refine am_after (v0 := some (.int (Int32.ofInt 1))) (va_runV (As := [.int (Int32.ofInt (strL.getD k 0))]) (rest := []) ⟨hx, hb, hml, hown, hts⟩ hM (cwV 1 hts (own := RX4) (index := 79) (C := RX2) (gW_V (y := mY 14) (c := mB 14) (n := nlm 14) (r := mRet 14) wd_181 wd_182 wd_183 wd_52 we_61) rfl rfl rfl (by decide +kernel) ⟨by show mFr 14 + 1 ≤ R.frames; have : mFr 14 = 0 := rfl; omega, by show 8 + (nlm 14 + 11) + mLo 14 ≤ R.locals; have : mLo 14 = 0 := rfl; have : nlm 14 = 2 := rfl; omega⟩) ⟨Ok_blind, va_recv hK hP (ci := 2) rfl ((cs_at (N := 40) (adr := adr) (cI := cI) (cC := cC) (cG := cG) (σ := wt k) (p := 11) (by decide)).trans (by rw [cE_o (c := 2) rfl (by decide)])), fun U hU hW => ⟨rfl, by rw [hU]; exact hP, va_K.moved hW.alike hK, va_Nw.warmM hW hnw⟩⟩ rfl rfl hl.1 rfl (lv_room (Nat.le_of_ble_eq_true rfl)) dX4_init_146 ⟨hce, hsl⟩) hS (AP_sub hAd) (fun H2 locs2 hP hS => ?_)
    refine lv_pop hx hb dX4_init_149 rfl ?_
    refine lv_iinc (v := nI (k + 1)) (lv' := [(1, .int (nI (k + 1))), (0, .ref (adr 0))]) hx hb dX4_init_150 hl (k := 1) rfl (nI_succ k).symm (by decide) rfl (fun ls hl => ?_)
    refine lv_goto (tgt := 127) hx hb dX4_init_153 (by decide) ?_
    exact ih (k + 1) _ _ _ (by omega) hP hS (lv_sub hl [1, 0] rfl)
end XT
