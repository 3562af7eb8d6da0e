/-! THE LAW'S ENTRY; behind it the kit's SKELETON -/
set_option maxHeartbeats 4000000 in
set_option maxRecDepth 100000 in
/-- from the loop on -/
theorem law_end {p : Program} {e : Env} {s : State} {m : MethodId} {below : List Frame} {meth : Method} {c : Code} {l : Launch} {b L : Nat} {xs : Nat → Int32} (hL : L ≤ 256) (C0 : lw_At p s m meth c b L xs) {D : va_G} {cI cC cG : ClassId} (hK : va_K D vwCl (tys3 cI cC cG) s) (hnw : va_Nw nestW s) {u : Nat → Nat} {σ2 : Sg} (hinj : ∀ i j, i < 53 → j < 53 → u i = u j → i = j) (hAd : ∀ i, i < 53 → s.heap.size ≤ u i) (hO : OkD d1) (hI : InvC σ2 d1) (hM : InvM σ2 d1) {H : Heap} {locs : List Loc} {ls : Array Slot} (hP : va_P D vwCl (cs 53 u cI cC cG σ2) H) (hS : va_S (fun q : Nat => s.heap.size ≤ q) s.heap H locs) (hl : lv_has ls 4 [(0, .ref b), (1, .ref (u 0)), (2, .ref (u 40)), (3, .int (Int32.ofInt 0))]) : W p l e room_1 s m #[Value.ref b] below meth c H locs 600000 7302250 (lw_Z below #[Value.ref b] s) (F0 m 18 ls []) := by
  obtain ⟨hx, hb, hr, hml, hown, hts, hX, hbl, hlocks, hgv⟩ := id C0
  have htg : ∀ w ∈ gwl, w.before #[Value.ref b] s = true := fun w hw => hts w (List.mem_filter.mp hw).1
  obtain ⟨adr, hadr⟩ : ∃ adr : Nat → Nat, adr = fun i => if i = 99 then b else u i := ⟨_, rfl⟩
  have a99 : adr 99 = b := by rw [hadr]; rfl
  have aU : ∀ i, i < 53 → adr i = u i := fun i hi => by
    rw [hadr]
    exact if_neg (by omega)
  obtain ⟨σ, hσ⟩ : ∃ σ : Sg, σ = fun q j => if q < 53 then σ2 q j else if q = 98 then (L : Int) else if q = 99 then (xs j).toInt else 0 := ⟨_, rfl⟩
  have s53 : ∀ q, q < 53 → σ q = σ2 q := fun q hq => funext fun j => by
    rw [hσ]
    exact if_pos hq
  have s98 : σ 98 0 = (L : Int) := by rw [hσ]; rfl
  have s99 : ∀ j, σ 99 j = (xs j).toInt := fun j => by rw [hσ]; rfl
  have hP1 : va_P D vwCl (cs 53 adr cI cC cG σ) H := fun k9 q9 h9 => by
    obtain ⟨hk9, rfl⟩ := cs_of h9
    rw [aU k9 hk9, cE_adr (adr := u) (fun j => aU _ (lk_53 k9 j hk9)), cE_same (s53 k9 hk9)]
    exact hP k9 _ (cs_at hk9)
  have hI1 : InvC σ d1 := hI.kept (fun q hq => s53 q (by omega))
  have hM1 : InvM σ d1 := hM.kept (s53 _ (by decide)) (s53 _ (by decide)) (s53 _ (by decide)) (s53 _ (by decide)) (s53 _ (by decide)) (s53 _ (by decide)) (by rw [s53 _ (by decide)]) (by rw [s53 _ (by decide)]) (by rw [s53 _ (by decide)]) (by rw [s53 _ (by decide)])
  have hin : ∀ j, InR (xs j).toInt := fun j => ⟨Int32.le_toInt _, Int32.toInt_lt _⟩
  obtain ⟨σ', hrun⟩ := law_loop (n := L) (by omega) L 0 σ d1 (by omega) (by omega) s98 (fun j _ => by rw [s99]; exact hin j) ⟨hO, hI1, hM1⟩
  obtain ⟨n, hn⟩ := (RunF_iff (hF := hF)).mp (show RunF cdm nlm hF 131 18 [vR 99, vR 0, vR 40, vI 0] [] σ = some (vI 1, σ') from hrun)
  have hinj1 : ∀ i j, i < 53 → j < 53 → adr i = adr j → i = j := fun i j hi hj h => hinj i j hi hj (by rw [← aU i hi, ← aU j hj]; exact h)
  have hAd1 : ∀ i, i < 53 → (fun q : Nat => s.heap.size ≤ q) (adr i) := fun i hi => by
    show s.heap.size ≤ adr i
    rw [aU i hi]
    exact hAd i hi
  refine am_body 53 131 (allG_ss 131 (by decide)) p l e room_1 s m _ below meth c _ 600000 7302250 adr D cI cC cG (fun q : Nat => s.heap.size ≤ q) s.heap σ (vI 1, σ') ⟨hx, hb, hml, hown, htg, hK, (by decide : mFr 131 ≤ 8), (by decide : mLo 131 ≤ 266), Nat.le_refl _, Nat.le_refl _, hnw, hinj1, hAd1, lk_53, by decide⟩ (fun _ => ⟨L, xs, by rw [a99]; exact hX, by rw [a99]; exact hbl, by rw [a99]; exact Nat.not_le.mpr hbl, s98, fun j _ => by rw [s99]; exact Int32.ofInt_toInt _⟩) (fun m' as' τ q hq hf h1 h2 h3 => am_all 53 lk_53 (by decide) l adr D cI cC cG hinj1 m' as' τ q hq (by have : mFr 131 = 6 := rfl; omega) h1 h2 h3) (fun pc' lsA' H' locs' st' hP' hS' _ hra => ?_) n 18 [vR 99, vR 0, vR 40, vI 0] [] σ ls H locs hn (fun _ z => absurd z List.not_mem_nil) ⟨?_, fun j x9 h9 => ?_, hP1, hS, fun _ _ _ => rfl, ?_⟩
  · rcases hra with ⟨h1, -⟩ | ⟨x9, ty, h1, h2, h3, h4, h5, rfl⟩ | ⟨q9, C9, h1, -⟩
    · exact absurd h1 (by decide)
    · cases h2
      exact va_forget (fun q hq => hS'.2.2 q hq) (lw_ret hx hb hr hlocks h5)
    · exact absurd h1 (by decide)
  · have e0 := aU 0 (by decide)
    have e4 := aU 40 (by decide)
    rw [← a99, ← e0, ← e4] at hl
    exact hl
  · exfalso
    rcases j with _ | _ | _ | _ | j <;> cases h9
  · exact low_c (Or.inr rfl) (low_c (Or.inl (by decide)) (low_c (Or.inl (by decide)) (low_i (fun _ z => absurd z List.not_mem_nil))))
set_option maxHeartbeats 4000000 in
set_option maxRecDepth 100000 in
/-- THE LAW, from its entry -/
theorem whole_start {p : Program} {e : Env} {s : State} {m : MethodId} {below : List Frame} {meth : Method} {c : Code} (l : Launch) (hflags : l.flags = flags0) {b L : Nat} {xs : Nat → Int32} (hL : L ≤ 256) (C0 : lw_At p s m meth c b L xs) : W p l e room_1 s m #[Value.ref b] below meth c s.heap [] 0 0 (lw_Z below #[Value.ref b] s) (entryFrame m ([Value.ref b] : List Value).toArray 4) := by
  obtain ⟨hx, hb, hr, hml, hown, hts0, hX, hbl, hlocks, hgv⟩ := id C0
  have hts : ∀ w ∈ gwl, w.before #[Value.ref b] s = true := fun w hw => hts0 w (List.mem_filter.mp hw).1
  have hA : ∀ q : Nat, s.heap.size ≤ q → (fun q : Nat => s.heap.size ≤ q) q := fun _ h => h
  have hAn : ∀ a : Nat, a < s.heap.size → ¬ (fun q : Nat => s.heap.size ≤ q) a := fun a h => Nat.not_le.mpr h
  obtain ⟨aS, aV, hst, hvk⟩ := st_text hts0 hgv hAn
  have hN := st_nest hts0
  obtain ⟨D, cI, cC, cG, hK, hAo⟩ := st_known hts0
  have hnw : va_Nw nestW s := hN _ (List.mem_of_getElem? (i := 6) rfl)
  obtain ⟨σ2, hlay, hI, hO, hC⟩ := wt_lay
  obtain ⟨σ3, hrun, hM, hF3⟩ := stt_m (σ := up σ2 11 1 0) (by rw [hC 40 (by decide)]; rfl)
  have hI3 : InvC σ3 d1 := hI.kept (fun q hq => hF3 q (Or.inl hq))
  have hS : va_S (fun q : Nat => s.heap.size ≤ q) s.heap s.heap [] := va_S.rf
  have hP : va_P D vwCl [] s.heap := fun k q h => by simp at h
  have hD : va_D (fun q : Nat => s.heap.size ≤ q) [] := ⟨fun i j p q h => by simp at h, fun k q h => by simp at h⟩
  have hl := lv_entry ([.ref b]) (n := 4) (Nat.le_of_ble_eq_true rfl)
  rw [lg_entry_eq]
  generalize (lg_sl ([.ref b]) ++ List.replicate (4 - (lg_sl ([.ref b])).length) Slot.unset).toArray = ls at hl ⊢
  have hl : lv_has ls 4 [(0, .ref b)] := hl
  refine va_new (ci := 4) (fs := [.null, .null, .null, .int 0, .null, .null, .null, .null, .null, .int 0, .null, .null, .null, .int 0, .null, .null, .int 0]) (C := RX4) (T := TX4) (N := 17) hx hb hts iw_X4 tyX4 tyX4_ok hown (hts _ we_65) (hts _ we_63) (hts _ wd_113) hK hP hD hS hA rfl (fun j hj => by rcases (show j = 0 ∨ j = 1 ∨ j = 2 ∨ j = 3 ∨ j = 4 ∨ j = 5 ∨ j = 6 ∨ j = 7 ∨ j = 8 ∨ j = 9 ∨ j = 10 ∨ j = 11 ∨ j = 12 ∨ j = 13 ∨ j = 14 ∨ j = 15 ∨ j = 16 by omega) with rfl | rfl | rfl | rfl | rfl | rfl | rfl | rfl | rfl | rfl | rfl | rfl | rfl | rfl | rfl | rfl | rfl <;> rfl) (Nat.le_of_ble_eq_true rfl) (Nat.le_of_ble_eq_true rfl) dL_law_0 (fun q0 H hP hD hS => ?_)
  have hP : va_P D vwCl [ioE q0] H := hP
  have hD : va_D (fun q : Nat => s.heap.size ≤ q) [ioE q0] := hD
  refine lv_dup hx hb dL_law_3 rfl ?_
  have hFc := va_free (wc := [ioE q0]) hD hS hA [0] rfl
  have hstH : StF aS aV (va_A [ioE q0] H.size) s H := (hst.kept hS.2.1).narrow hFc
  refine va_callv (va_runI (As := []) (rest := [.ref q0]) ⟨hx, hb, hml, hown, hts⟩ (ki_X4_init l D cI cC cG q0 H.size aS aV σ2 hlay) (cwI 0 hts (gW_in we_66) rfl rfl rfl (hts _ wd_113) (hts _ we_67) (hts _ we_68) rfl (by decide +kernel) ⟨Nat.le_of_ble_eq_true rfl, Nat.le_of_ble_eq_true rfl⟩) ⟨IoP_blind, fun U hU hW => ⟨rfl, by rw [hU], by rw [hU]; exact hP, va_K.moved hW.alike hK, hN.warm hW, hAo.warm hW, by rw [hU]; exact hstH.moved hW.alike, hvk.warm hW⟩⟩ rfl rfl hl.1 rfl (lv_room (Nat.le_of_ble_eq_true rfl)) dL_law_4 ⟨Nat.le_of_ble_eq_true rfl, Nat.le_of_ble_eq_true rfl⟩) hS (fun q _ h => hFc q h) hFc (fun u t H1 locs ht hvm hw hB hz1 hk1 hS => ?_)
  obtain ⟨hu0, hinj, hAd, hP1⟩ := hB
  rw [ht] at hP1
  have hAu : ∀ i, i < 40 → (fun q : Nat => s.heap.size ≤ q) (u i) := fun i hi => hFc _ (hAd i hi)
  have hDu : va_D (fun q : Nat => s.heap.size ≤ q) (cs 40 u cI cC cG (up σ2 11 1 0)) := cs_D hinj hAu
  refine lv_astore_n (lv' := [(1, .ref q0), (0, .ref b)]) hx hb dL_law_7 rfl hl (by decide) rfl (fun ls hl => ?_)
  refine va_new (ci := 5) (fs := [.null, .int 0, .null, .null, .null, .null, .int 0, .null, .int 0, .null, .int 0, .int 0, .null, .null, .null, .null, .int 0, .int 0, .int 0, .int 0, .null]) (C := RX5) (T := TX5) (N := 21) hx hb hts iw_X5 tyX5 tyX5_ok hown (hts _ we_69) (hts _ we_64) (hts _ wd_271) hK hP1 hDu hS hA rfl (fun j hj => by rcases (show j = 0 ∨ j = 1 ∨ j = 2 ∨ j = 3 ∨ j = 4 ∨ j = 5 ∨ j = 6 ∨ j = 7 ∨ j = 8 ∨ j = 9 ∨ j = 10 ∨ j = 11 ∨ j = 12 ∨ j = 13 ∨ j = 14 ∨ j = 15 ∨ j = 16 ∨ j = 17 ∨ j = 18 ∨ j = 19 ∨ j = 20 by omega) with rfl | rfl | rfl | rfl | rfl | rfl | rfl | rfl | rfl | rfl | rfl | rfl | rfl | rfl | rfl | rfl | rfl | rfl | rfl | rfl | rfl <;> rfl) (Nat.le_of_ble_eq_true rfl) (Nat.le_of_ble_eq_true rfl) dL_law_8 (fun q1 H2 hP2 hD2 hS => ?_)
  have hlen : (cs 40 u cI cC cG (up σ2 11 1 0)).length = 40 := by unfold cs; rw [List.length_map, List.length_range]
  have hm : (cs 40 u cI cC cG (up σ2 11 1 0) ++ [imE q1])[40]? = some (imE q1) := by
    rw [List.getElem?_append_right (by omega), hlen]
    rfl
  have hPm : va_P D vwCl [imE q1] H2 := fun k9 q9 h9 => by
    have h1 : k9 < 1 := (List.getElem?_eq_some_iff.mp h9).1
    have h2 : k9 = 0 := by omega
    subst h2
    cases h9
    exact hP2 40 _ hm
  have hat : ∀ i, i < 40 → (cs 40 u cI cC cG (up σ2 11 1 0) ++ [imE q1])[i]? = some (u i, cE u cI cC cG (up σ2 11 1 0) i) := fun i hi => by
    rw [List.getElem?_append_left (by omega)]
    exact cs_at hi
  have hPu : va_P D vwCl (cs 40 u cI cC cG (up σ2 11 1 0)) H2 := fun k9 q9 h9 => by
    obtain ⟨hk9, rfl⟩ := cs_of h9
    exact hP2 k9 _ (hat k9 hk9)
  have hne : ∀ i, i < 40 → u i ≠ q1 := fun i hi z => by
    have := hD2.1 i 40 _ _ (hat i hi) hm z
    omega
  have hq1 : s.heap.size ≤ q1 := hD2.2 40 _ hm
  have hFm : ∀ q, imA u q1 H2.size q → s.heap.size ≤ q := fun q z => by
    rcases z with ⟨i, hi, rfl⟩ | rfl | z
    · exact hAu i hi
    · exact hq1
    · exact Nat.le_trans hS.1 z
  refine lv_dup hx hb dL_law_11 rfl ?_
  refine va_callv (va_runI (As := []) (rest := [.ref q1]) ⟨hx, hb, hml, hown, hts⟩ (ki_X5_init l D cI cC cG u q1 H2.size (up σ2 11 1 0) σ3 hinj hne (fun q hq => hC q hq) hrun) (cwI 0 hts (gW_in we_70) rfl rfl rfl (hts _ wd_271) (hts _ we_71) (hts _ we_72) rfl (by decide +kernel) ⟨Nat.le_of_ble_eq_true rfl, Nat.le_of_ble_eq_true rfl⟩) ⟨ImP_blind, fun U hU hW => ⟨rfl, by rw [hU], by rw [hU]; exact hPu, by rw [hU]; exact hPm, va_K.moved hW.alike hK, va_Nw.warmM hW hnw⟩⟩ rfl rfl hl.1 rfl (lv_room (Nat.le_of_ble_eq_true rfl)) dL_law_12 ⟨Nat.le_of_ble_eq_true rfl, Nat.le_of_ble_eq_true rfl⟩) hS (fun q _ h => hFm q h) hFm (fun v t3 H3 locs3 ht3 hvm3 hw3 hB3 hz3 hk3 hS => ?_)
  obtain ⟨hv1, hv40, hvi, hvA, hP3⟩ := hB3
  rw [ht3] at hP3
  refine lv_astore_n (lv' := [(2, .ref q1), (1, .ref q0), (0, .ref b)]) hx hb dL_law_15 rfl hl (by decide) rfl (fun ls hl => ?_)
  refine lv_iconst (v := Int32.ofInt 0) hx hb dL_law_16 rfl ?_
  refine lv_istore_n (lv' := [(3, .int (Int32.ofInt 0)), (2, .ref q1), (1, .ref q0), (0, .ref b)]) hx hb dL_law_17 rfl hl (by decide) rfl (fun ls hl => ?_)
  refine W.widen (k := 600000) (n := 7302250) (Nat.le_of_ble_eq_true rfl) (Nat.le_of_ble_eq_true rfl) ?_
  refine law_end hL C0 hK hnw hvi (fun i hi => hFm _ (hvA i hi)) hO hI3 hM hP3 hS ?_
  rw [hv1 0 (by decide), hu0, hv40]
  exact lv_sub hl [3, 2, 1, 0] rfl
set_option maxHeartbeats 4000000 in
theorem lw_walk (l : Launch) (hflags : l.flags = flags0) (b : Addr) (xs : List Int32) : MetFree l x (headSpec (Jvm.Cond.code x code maxLocals ret :: tables_1) room_1) (lw_P b xs) (fun _ _ _ _ _ => True) lw_Q := by
  refine MetFree.of_bodyS (code := code) (maxLocals := maxLocals) (ret := ret) (by decide) ?_ ?_
  · intro args s m h hn
    obtain ⟨meth, c, h1, h2, h3, h4, h5, h6, -, -⟩ := Cond.code_spec hn (atoms_spec (ws := Jvm.Cond.code x code maxLocals ret :: tables_1) h _ List.mem_cons_self)
    exact ⟨meth, c, h1, h2, h3, h4, h5, h6⟩
  · intro p e s m args below meth c s₁ B hml0 hP _
    obtain ⟨rfl, hx, hbd, hgv⟩ := hP
    obtain ⟨scr, harrAt, hlist, hof, hsmall⟩ := hx
    obtain ⟨hcb, hkn, -, -⟩ := State.arrayAt?_spec harrAt
    have hown : s.vm.findClass R_law = some m.cls := findClass_of_methodNamed B.named
    have hts0 : ∀ c ∈ (Jvm.Cond.code x code maxLocals ret :: tables_1), c.before #[Value.ref b] s = true := atoms_spec (ws := Jvm.Cond.code x code maxLocals ret :: tables_1) B.pre
    have hts : ∀ w ∈ lw_tbl, w.before #[Value.ref b] s = true := k2_hts_sels lw_privs (fun w hw => hts0 w (List.mem_cons_of_mem _ hw)) lw_privs_ok
    have hml : c.maxLocals = 4 := B.maxLocals_eq (hts0 _ List.mem_cons_self)
    have X₀ : Stand p l e room_1 s m #[Value.ref b] below meth c s₁ [] 0 0 := Stand.of_body B
    have hh0 : s₁.heap = s.heap := by rw [B.state]; rfl
    have hsz : scr.slots.size = xs.length := by rw [← Array.length_toList, hlist, List.length_map]
    have hval : ∀ j : Nat, j < xs.length → scr.slots[j]? = some (.int (xs.getD j 0)) := fun j hj => by
      rw [← Array.getElem?_toList, hlist]
      simp [hj]
    have hbl : b < s.heap.size := (Array.getElem?_eq_some_iff.mp hcb).1
    have hX : va_X b xs.length (fun j => xs.getD j 0) s s.heap := ⟨scr, hcb, hof, hkn, hsz, hval⟩
    have K : W p l e room_1 s m #[Value.ref b] below meth c s₁.heap [] 0 0 (lw_Z below #[Value.ref b] s) (entryFrame m ([Value.ref b] : List Value).toArray 4) := by
      rw [hh0]
      exact whole_start l hflags hbd ⟨B.exec, B.bytes, B.returns, hml, hown, hts, hX, hbl, B.notSynchronized, hgv⟩
    obtain ⟨t, a1, o, b1, b2, b3⟩ := K s₁ rfl X₀
    exact ⟨t, o, a1, b1, b2, b3⟩
theorem lw_pre_spec {args : Array Value} {s : State} (h : (Jvm.Cond.and given_1 narrow_1).before args s = true) (hr : rest_1_c.before args s = true) : ∃ (b : Addr) (xs : List Int32), lw_P b xs args s := by
  have hs := flat_of_before _ h
  have hq := flat_of_before _ hr
  have hc : (Cond.count 1).before args s = true := hs _ (by decide +kernel)
  have harr : (Cond.arrayOf (.arg 0) .int).before args s = true := hs _ (by decide +kernel)
  have hle : (Cond.le (.length (.arg 0)) (.int 256)).before args s = true := hs _ (by decide +kernel)
  have hlen : (Cond.isInt (.length (.arg 0))).before args s = true := hq _ (by decide +kernel)
  have hall : (Cond.all (.arg 0) (.isInt (.elem (.arg 0) (.index 0)))).before args s = true := hq _ (by decide +kernel)
  obtain ⟨b, xs, hb, hx⟩ := State.ints_of_pre rfl harr hlen hall
  have hsm : xs.length < 2 ^ 31 := hx.choose_spec.2.2.2
  have hev : (Term.length (.arg 0)).eval args s none [] s = some (.int xs.length.toInt32) := hx.length_eval hb
  have hv := Cond.le_ints hev (show (Term.int 256).eval args s none [] s = some (.int 256) from rfl)
  have hd : xs.length.toInt32 ≤ 256 := by
    simpa [Cond.before, Cond.holds, hv] using hle
  have hN : xs.length ≤ 256 := (Int32.ofNat_le_ofNat hsm (by decide)).mp (show Int32.ofNat xs.length ≤ Int32.ofNat 256 from hd)
  exact ⟨b, xs, Cond.one_arg hc (show args[0]? = some (.ref b) from hb), hx, hN, h⟩
theorem lw_comes (l : Launch) (hflags : l.flags = flags0) : Comes l x (Jvm.Cond.code x code maxLocals ret :: tables_1) room_1 (fun tb e args s => Calls_1 tb e args s ∧ rest_1 tb e args s ∧ Pre_1 tb e args s)
    (fun _ _ args s o t => lw_Q args s o t) := by
  intro p e ha hc hk s m args below hf hfit hheap happ hpre
  obtain ⟨b, xs, hP⟩ := lw_pre_spec hpre.2.2 hpre.2.1
  obtain ⟨k, o, h1, h2, h3, hQ⟩ := lw_walk l hflags b xs p e ha hc hk s m args below hf ((Spec.applies_iff_loose hf).mp happ).1 hP trivial
  exact ⟨k, o, h1, h2, h3, hQ⟩
theorem lw_frame {s t : State} {o : Outcome} {args : Array Value} (h : Framed s o t [] 600000 7302250) :
    Framed s o t (fieldLocs frame_1_writes args s ++ arrayLocs frame_1_arrays args s ++ staticLocs frame_1_statics s) 600000 7302250 := h
theorem lw_limb (L : Cond) (hL : ∀ (args : Array Value) (s t : State), L.after args s (.returned (some (.int 1))) t = true) :
    ArmFor flags0 classFile x code maxLocals ret World_1 tables_1 room_1 Calls_1 rest_1 Pre_1
      (fun tb e a s o t => postC L tb e a s o t ∧ Framed s o t (fieldLocs frame_1_writes a s ++ arrayLocs frame_1_arrays a s ++ staticLocs frame_1_statics s) 600000 7302250) := by
  intro l hflags _ _ p e ha hc hk s m args below hf hfit hheap happ hpre
  obtain ⟨k, o, h1, h2, h3, rfl, hF⟩ := lw_comes l hflags p e ha hc hk s m args below hf hfit hheap happ hpre
  exact ⟨k, _, h1, h2, h3, hL args s _, lw_frame hF⟩
theorem i_vc : Claimed_1_1 ∧ Claimed_1_2 := ⟨lw_limb limb_1_1 (fun args s t => by simp [limb_1_1, Cond.after, Cond.holds, Cond.value]), lw_limb limb_1_2 (fun args s t => Cond.after_iff.mpr (by
  first | (rw [show limb_1_2 = Cond.eq .result (.int 1) from rfl, Cond.eq_ints (x := 1) (y := 1) rfl rfl]; simp; done) | (simp [limb_1_2, Cond.value, Term.eval]; done)))⟩
