/-! CALLS, AND THE THEOREM -/
theorem Ok_blind {N : Nat} {D : va_G} {adr : Nat → Nat} {cI cC cG : ClassId} {σ : Sg} {vs : List Value} : FrameBlind (va_Pc vs (fun U => va_P D vwCl (cs N adr cI cC cG σ) U.heap ∧ va_K D vwCl (tys3 cI cC cG) U ∧ va_Nw nestW U)) := fun a U g mk h => ⟨h.1, h.2.1, va_K.moved (u := U) (U := U.calling g mk a) (Vm.Alike.refl U.vm) h.2.2.1, va_Nw.same (u := U) (U := U.calling g mk a) rfl rfl h.2.2.2⟩
section AMC
variable {p : Program} {l : Launch} {e : Env} {R : Room} {s : State} {m : MethodId} {args : Array Value} {below : List Frame} {meth : Method} {c : Code} {H : Heap} {locs : List Loc} {cells slots : Nat} {Q : State → Prop}
theorem am_after {D : va_G} {W1 : va_W} {A0 A1 : Nat → Prop} {H0 : Heap} {v0 : Option Value} {pc : Nat} {ls : Array Slot} {rest st0 : List Value} (hr : va_Run p l e R s m args below meth c H locs cells slots 0 0 (F0 m pc ls st0) rest (fun t0 oc t => oc = .returned v0 ∧ va_P D vwCl W1 t.heap ∧ va_F A1 t0 t) A1) (hS : va_S A0 H0 H locs) (hA : ∀ q, A1 q → A0 q)
    (kk : ∀ (H1 : Heap) (locs1 : List Loc), va_P D vwCl W1 H1 → va_S A0 H0 H1 locs1 → W p l e R s m args below meth c H1 locs1 cells slots Q (F0 m (pc + 3) ls (v0.toList ++ rest))) : W p l e R s m args below meth c H locs cells slots Q (F0 m pc ls st0) := by
  intro T hT X
  obtain ⟨v, st₀, t, T', L, h0, X', hL, e1, e2, ⟨hv, hp, hz, hk⟩, st⟩ := hr T hT X
  cases hv
  rw [h0] at hz hk
  obtain ⟨t2, a1, b1⟩ := kk T'.heap (locs ++ L) (by rw [e1]; exact hp)
    ⟨Nat.le_trans hS.1 (by rw [e1]; exact hz), fun q h1 h2 => by rw [e1, hk q (Nat.lt_of_lt_of_le h1 hS.1) (fun z => h2 (hA q z))]; exact hS.2.1 q h1 h2, fun q hq => by
      rcases List.mem_append.mp hq with h | h
      · exact hS.2.2 q h
      · exact hA _ (hL q h)⟩ T' rfl X'
  exact ⟨t2, st t2 a1, b1⟩
end AMC
theorem kcI_some {r : Res} {k : Int → Sg → Res} {q : AV × Sg} (h : kcI r k = some q) : ∃ x s, r = some (vI x, s) ∧ k x s = some q := by
  rcases r with _ | ⟨x | x | x | x, s⟩
  · cases h
  · exact ⟨x, s, rfl, h⟩
  · cases h
  · cases h
  · cases h
theorem kcR_some {r : Res} {p0 : Nat} {k : Sg → Res} {q : AV × Sg} (h : kcR p0 r k = some q) : ∃ s, r = some (vR p0, s) ∧ k s = some q := by
  rcases r with _ | ⟨x | x | x | x, s⟩
  · cases h
  · cases h
  · have h3 : (if x = p0 then k s else none) = some q := h
    by_cases c0 : x = p0
    · rw [if_pos c0] at h3
      exact ⟨s, by rw [c0], h3⟩
    · rw [if_neg c0] at h3; cases h3
  · cases h
  · cases h
theorem kcV_some {r : Res} {k : Sg → Res} {q : AV × Sg} (h : kcV r k = some q) : ∃ v s, r = some (v, s) ∧ k s = some q := by
  rcases r with _ | ⟨v, s⟩
  · cases h
  · exact ⟨v, s, rfl, h⟩
theorem Rl.call {N mi : Nat} {adr : Nat → Nat} {D : va_G} {cI cC cG : ClassId} {A0 : Nat → Prop} {H0 : Heap} {σ0 σ σ' : Sg} {ls : List AV} {lsA : Array Slot} {H H1 : Heap} {locs locs1 : List Loc} (h : Rl N mi adr D cI cC cG A0 H0 σ0 σ ls lsA H locs) (hs : ∀ j i, nP ≤ j → σ' j i = σ j i) (hP : va_P D vwCl (cs N adr cI cC cG σ') H1) (hS : va_S A0 H0 H1 locs1) : Rl N mi adr D cI cC cG A0 H0 σ0 σ' ls lsA H1 locs1 := ⟨h.1, h.2.1, hP, hS, fun q j hj => (hs q j hj).trans (h.2.2.2.2.1 q j hj), h.2.2.2.2.2⟩
theorem AP_sub {N : Nat} {adr : Nat → Nat} {A0 : Nat → Prop} (hA : ∀ i, i < N → A0 (adr i)) : ∀ q, AP N adr q → A0 q := fun q ⟨i, h1, h2⟩ => by rw [h2]; exact hA i h1
theorem stk_split (adr : Nat → Nat) (st : List AV) (n p : Nat) (h : st[n]? = some (vR p)) : stk adr st = (stk adr (st.take n).reverse).reverse ++ .ref (adr p) :: stk adr (st.drop (n + 1)) ∧ stk adr (st.take (n + 1)).reverse = .ref (adr p) :: stk adr (st.take n).reverse := by
  obtain ⟨hl, hv⟩ := List.getElem?_eq_some_iff.mp h
  have e1 : st.take (n + 1) = st.take n ++ [vR p] := by rw [List.take_succ, h]; rfl
  have e2 : st = st.take n ++ vR p :: st.drop (n + 1) := by
    have := List.take_append_drop (n + 1) st
    rw [e1] at this
    simpa using this.symm
  constructor
  · unfold stk
    rw [List.map_reverse, List.reverse_reverse]
    conv => lhs; rw [e2]
    rw [List.map_append]
    rfl
  · rw [e1]
    unfold stk
    simp [cvD]
theorem stk_splitS (adr : Nat → Nat) (st : List AV) (n : Nat) : stk adr st = (stk adr (st.take n).reverse).reverse ++ stk adr (st.drop n) := by
  unfold stk
  rw [List.map_reverse, List.reverse_reverse, ← List.map_append, List.take_append_drop]
theorem ss_callI {mi pc idx ci m' n N : Nat} {C0 : String} {T : u_T} (hd : decode (mB mi) pc = .ok (.invokevirtual idx, 3)) (hcl : vwCl[ci]? = some (C0, T, N)) (hci : ci < 10) (hw1 : Cond.methodLink (mY mi).cls idx (mY m') ∈ gwl) (hw2 : Cond.instanceMethod (mY m') ∈ gwl) (hw3 : Cond.selects C0 (mY m') (mY m') ∈ gwl) (hw4 : Cond.initialized C0 ∈ gwl) (hw5 : Cond.code (mY m') (mB m') (nlm m') (mRet m') ∈ gwl) (hy : (mY m').cls = C0 ∧ (mY m').cls ≠ "java/lang/invoke/MethodHandle" ∧ (mY m').cls ≠ "java/lang/invoke/VarHandle" ∧ (parseMethodDescriptor (mY m').desc).map (fun d => d.parameters.length) = some n) (hrk : mRk m' = 1) (hfm : mFr m' + 1 ≤ mFr mi) (hlm : 8 + (nlm m' + 11) + mLo m' ≤ mLo mi) (hnl : n + 1 ≤ nlm m') : SS mi pc (s_call ci n (s_scallI m' (n + 1))) := by
  intro N p l e R s m args below meth c Q cells slots adr D cI cC cG A0 H0 σ0 C K r F hZ hC hK hR ls st σ lsA H locs h hw hl
  obtain ⟨hx, hb, hml, hown, hts, hKK, hfr, hlo, hce, hsl, hnw, hinj, hA0, hcl0, hN40⟩ := id F
  unfold s_call at h
  cases hst : st[n]? with
  | none => rw [hst] at h; cases h
  | some v0 =>
    rw [hst] at h
    rcases v0 with x0 | x0 | x0 | x0
    · cases h
    case inr.inr.inl => cases h
    case inr.inr.inr => cases h
    have h : (if kd x0 = ci then s_scallI m' (n + 1) C K pc ls st σ else none) = some r := h
    by_cases c0 : kd x0 = ci
    case neg => rw [if_neg c0] at h; cases h
    rw [if_pos c0] at h
    unfold s_scallI at h
    by_cases c1 : (st.drop (n + 1)).length ≤ 4 ∧ n + 1 ≤ st.length ∧ (st.take (n + 1)).all gA = true
    case neg => rw [if_neg c1] at h; cases h
    rw [if_pos c1] at h
    obtain ⟨x, σ1, e1, e2⟩ := kcI_some h
    obtain ⟨hM, hi⟩ := hC _ _ _ _ e1 hfm (by rw [List.all_reverse]; exact c1.2.2) (by rw [List.length_reverse, List.length_take]; omega) (low_r hw)
    obtain ⟨s1, s2⟩ := stk_split adr st n x0 hst
    rw [s2] at hM
    have hp := low_p (st := []) (low_c (hw _ (List.mem_of_getElem? hst)) (fun _ z => absurd z List.not_mem_nil)) c0 (by omega)
    have he := (cs_at (N := N) (adr := adr) (cI := cI) (cC := cC) (cG := cG) (σ := σ) hp).trans (by rw [cE_o c0 hci])
    have hc := stk_cat adr (st.drop (n + 1))
    have hasz : (stk adr (st.take n).reverse).length = n := by
      unfold stk
      rw [List.length_map, List.length_reverse, List.length_take]
      omega
    have hrun := va_runV (rest := stk adr (st.drop (n + 1))) (g := F0 m pc lsA (stk adr st)) (locs := locs) (cells := cells) (slots := slots) (p := p) (e := e) (below := below) (meth := meth) ⟨hx, hb, hml, hown, hts⟩ hM (cwV n hts (own := (mY mi).cls) (index := idx) (C := C0) (fun w hw9 => by
        rcases List.mem_append.mp hw9 with hw9 | hw9
        · refine gw_good (ws := [.methodLink (mY mi).cls idx (mY m'), .instanceMethod (mY m'), .selects C0 (mY m') (mY m'), .initialized C0]) (fun w hw8 => ?_) w hw9
          simp only [List.mem_cons, List.not_mem_nil, or_false] at hw8
          rcases hw8 with rfl | rfl | rfl | rfl <;> assumption
        · refine gw_good (ws := mW m') (fun w hw8 => ?_) w hw9
          rcases List.mem_cons.mp hw8 with rfl | hw7
          · exact hw5
          · exact hw7) rfl rfl rfl hy ⟨Nat.le_trans hfm hfr, Nat.le_trans hlm hlo⟩) ⟨Ok_blind, va_recv hKK hl.2.2.1 hcl he, fun U hU hW => ⟨rfl, by rw [hU]; exact hl.2.2.1, va_K.moved hW.alike hKK, va_Nw.warmM hW hnw⟩⟩ rfl hasz hl.1.1 s1 (lv_room (by omega)) hd ⟨hce, hsl⟩
    refine am_after hrun hl.2.2.2.1 (AP_sub hA0) (fun H1 locs1 hP hS => ?_)
    have k0 := hK _ _ _ _ e2 (low_i (low_d hw)) _ _ _ (hl.call hi hP hS)
    rw [hrk]
    exact k0
theorem ss_callV {mi pc idx ci m' n N : Nat} {C0 : String} {T : u_T} (hd : decode (mB mi) pc = .ok (.invokevirtual idx, 3)) (hcl : vwCl[ci]? = some (C0, T, N)) (hci : ci < 10) (hw1 : Cond.methodLink (mY mi).cls idx (mY m') ∈ gwl) (hw2 : Cond.instanceMethod (mY m') ∈ gwl) (hw3 : Cond.selects C0 (mY m') (mY m') ∈ gwl) (hw4 : Cond.initialized C0 ∈ gwl) (hw5 : Cond.code (mY m') (mB m') (nlm m') (mRet m') ∈ gwl) (hy : (mY m').cls = C0 ∧ (mY m').cls ≠ "java/lang/invoke/MethodHandle" ∧ (mY m').cls ≠ "java/lang/invoke/VarHandle" ∧ (parseMethodDescriptor (mY m').desc).map (fun d => d.parameters.length) = some n) (hrk : mRk m' = 0) (hfm : mFr m' + 1 ≤ mFr mi) (hlm : 8 + (nlm m' + 11) + mLo m' ≤ mLo mi) (hnl : n + 1 ≤ nlm m') : SS mi pc (s_call ci n (s_scallV m' (n + 1))) := by
  intro N p l e R s m args below meth c Q cells slots adr D cI cC cG A0 H0 σ0 C K r F hZ hC hK hR ls st σ lsA H locs h hw hl
  obtain ⟨hx, hb, hml, hown, hts, hKK, hfr, hlo, hce, hsl, hnw, hinj, hA0, hcl0, hN40⟩ := id F
  unfold s_call at h
  cases hst : st[n]? with
  | none => rw [hst] at h; cases h
  | some v0 =>
    rw [hst] at h
    rcases v0 with x0 | x0 | x0 | x0
    · cases h
    case inr.inr.inl => cases h
    case inr.inr.inr => cases h
    have h : (if kd x0 = ci then s_scallV m' (n + 1) C K pc ls st σ else none) = some r := h
    by_cases c0 : kd x0 = ci
    case neg => rw [if_neg c0] at h; cases h
    rw [if_pos c0] at h
    unfold s_scallV at h
    by_cases c1 : (st.drop (n + 1)).length ≤ 4 ∧ n + 1 ≤ st.length ∧ (st.take (n + 1)).all gA = true
    case neg => rw [if_neg c1] at h; cases h
    rw [if_pos c1] at h
    obtain ⟨v, σ1, e1, e2⟩ := kcV_some h
    obtain ⟨hM, hi⟩ := hC _ _ _ _ e1 hfm (by rw [List.all_reverse]; exact c1.2.2) (by rw [List.length_reverse, List.length_take]; omega) (low_r hw)
    obtain ⟨s1, s2⟩ := stk_split adr st n x0 hst
    rw [s2] at hM
    have hp := low_p (st := []) (low_c (hw _ (List.mem_of_getElem? hst)) (fun _ z => absurd z List.not_mem_nil)) c0 (by omega)
    have he := (cs_at (N := N) (adr := adr) (cI := cI) (cC := cC) (cG := cG) (σ := σ) hp).trans (by rw [cE_o c0 hci])
    have hc := stk_cat adr (st.drop (n + 1))
    have hasz : (stk adr (st.take n).reverse).length = n := by
      unfold stk
      rw [List.length_map, List.length_reverse, List.length_take]
      omega
    have hrun := va_runV (rest := stk adr (st.drop (n + 1))) (g := F0 m pc lsA (stk adr st)) (locs := locs) (cells := cells) (slots := slots) (p := p) (e := e) (below := below) (meth := meth) ⟨hx, hb, hml, hown, hts⟩ hM (cwV n hts (own := (mY mi).cls) (index := idx) (C := C0) (fun w hw9 => by
        rcases List.mem_append.mp hw9 with hw9 | hw9
        · refine gw_good (ws := [.methodLink (mY mi).cls idx (mY m'), .instanceMethod (mY m'), .selects C0 (mY m') (mY m'), .initialized C0]) (fun w hw8 => ?_) w hw9
          simp only [List.mem_cons, List.not_mem_nil, or_false] at hw8
          rcases hw8 with rfl | rfl | rfl | rfl <;> assumption
        · refine gw_good (ws := mW m') (fun w hw8 => ?_) w hw9
          rcases List.mem_cons.mp hw8 with rfl | hw7
          · exact hw5
          · exact hw7) rfl rfl rfl hy ⟨Nat.le_trans hfm hfr, Nat.le_trans hlm hlo⟩) ⟨Ok_blind, va_recv hKK hl.2.2.1 hcl he, fun U hU hW => ⟨rfl, by rw [hU]; exact hl.2.2.1, va_K.moved hW.alike hKK, va_Nw.warmM hW hnw⟩⟩ rfl hasz hl.1.1 s1 (lv_room (by omega)) hd ⟨hce, hsl⟩
    refine am_after hrun hl.2.2.2.1 (AP_sub hA0) (fun H1 locs1 hP hS => ?_)
    have k0 := hK _ _ _ _ e2 (low_d hw) _ _ _ (hl.call hi hP hS)
    rw [hrk]
    exact k0
theorem ss_callR {mi pc idx ci m' n N p0 : Nat} {C0 : String} {T : u_T} (hd : decode (mB mi) pc = .ok (.invokevirtual idx, 3)) (hcl : vwCl[ci]? = some (C0, T, N)) (hci : ci < 10) (hw1 : Cond.methodLink (mY mi).cls idx (mY m') ∈ gwl) (hw2 : Cond.instanceMethod (mY m') ∈ gwl) (hw3 : Cond.selects C0 (mY m') (mY m') ∈ gwl) (hw4 : Cond.initialized C0 ∈ gwl) (hw5 : Cond.code (mY m') (mB m') (nlm m') (mRet m') ∈ gwl) (hy : (mY m').cls = C0 ∧ (mY m').cls ≠ "java/lang/invoke/MethodHandle" ∧ (mY m').cls ≠ "java/lang/invoke/VarHandle" ∧ (parseMethodDescriptor (mY m').desc).map (fun d => d.parameters.length) = some n) (hp0 : p0 < 40) (hrk : mRk m' = 2) (hfm : mFr m' + 1 ≤ mFr mi) (hlm : 8 + (nlm m' + 11) + mLo m' ≤ mLo mi) (hnl : n + 1 ≤ nlm m') : SS mi pc (s_call ci n (s_scallR p0 m' (n + 1))) := by
  intro N p l e R s m args below meth c Q cells slots adr D cI cC cG A0 H0 σ0 C K r F hZ hC hK hR ls st σ lsA H locs h hw hl
  obtain ⟨hx, hb, hml, hown, hts, hKK, hfr, hlo, hce, hsl, hnw, hinj, hA0, hcl0, hN40⟩ := id F
  unfold s_call at h
  cases hst : st[n]? with
  | none => rw [hst] at h; cases h
  | some v0 =>
    rw [hst] at h
    rcases v0 with x0 | x0 | x0 | x0
    · cases h
    case inr.inr.inl => cases h
    case inr.inr.inr => cases h
    have h : (if kd x0 = ci then s_scallR p0 m' (n + 1) C K pc ls st σ else none) = some r := h
    by_cases c0 : kd x0 = ci
    case neg => rw [if_neg c0] at h; cases h
    rw [if_pos c0] at h
    unfold s_scallR at h
    by_cases c1 : (st.drop (n + 1)).length ≤ 4 ∧ n + 1 ≤ st.length ∧ (st.take (n + 1)).all gA = true
    case neg => rw [if_neg c1] at h; cases h
    rw [if_pos c1] at h
    obtain ⟨σ1, e1, e2⟩ := kcR_some h
    obtain ⟨hM, hi⟩ := hC _ _ _ _ e1 hfm (by rw [List.all_reverse]; exact c1.2.2) (by rw [List.length_reverse, List.length_take]; omega) (low_r hw)
    obtain ⟨s1, s2⟩ := stk_split adr st n x0 hst
    rw [s2] at hM
    have hp := low_p (st := []) (low_c (hw _ (List.mem_of_getElem? hst)) (fun _ z => absurd z List.not_mem_nil)) c0 (by omega)
    have he := (cs_at (N := N) (adr := adr) (cI := cI) (cC := cC) (cG := cG) (σ := σ) hp).trans (by rw [cE_o c0 hci])
    have hc := stk_cat adr (st.drop (n + 1))
    have hasz : (stk adr (st.take n).reverse).length = n := by
      unfold stk
      rw [List.length_map, List.length_reverse, List.length_take]
      omega
    have hrun := va_runV (rest := stk adr (st.drop (n + 1))) (g := F0 m pc lsA (stk adr st)) (locs := locs) (cells := cells) (slots := slots) (p := p) (e := e) (below := below) (meth := meth) ⟨hx, hb, hml, hown, hts⟩ hM (cwV n hts (own := (mY mi).cls) (index := idx) (C := C0) (fun w hw9 => by
        rcases List.mem_append.mp hw9 with hw9 | hw9
        · refine gw_good (ws := [.methodLink (mY mi).cls idx (mY m'), .instanceMethod (mY m'), .selects C0 (mY m') (mY m'), .initialized C0]) (fun w hw8 => ?_) w hw9
          simp only [List.mem_cons, List.not_mem_nil, or_false] at hw8
          rcases hw8 with rfl | rfl | rfl | rfl <;> assumption
        · refine gw_good (ws := mW m') (fun w hw8 => ?_) w hw9
          rcases List.mem_cons.mp hw8 with rfl | hw7
          · exact hw5
          · exact hw7) rfl rfl rfl hy ⟨Nat.le_trans hfm hfr, Nat.le_trans hlm hlo⟩) ⟨Ok_blind, va_recv hKK hl.2.2.1 hcl he, fun U hU hW => ⟨rfl, by rw [hU]; exact hl.2.2.1, va_K.moved hW.alike hKK, va_Nw.warmM hW hnw⟩⟩ rfl hasz hl.1.1 s1 (lv_room (by omega)) hd ⟨hce, hsl⟩
    refine am_after hrun hl.2.2.2.1 (AP_sub hA0) (fun H1 locs1 hP hS => ?_)
    have k0 := hK _ _ _ _ e2 (low_c (Or.inl (by omega)) (low_d hw)) _ _ _ (hl.call hi hP hS)
    rw [hrk]
    exact k0
theorem ss_scallI {mi pc idx m' n : Nat} (hd : decode (mB mi) pc = .ok (.invokestatic idx, 3)) (hw1 : Cond.methodLink (mY mi).cls idx (mY m') ∈ gwl) (hw2 : Cond.static (mY m') ∈ gwl) (hw4 : Cond.initialized (mY m').cls ∈ gwl) (hw5 : Cond.code (mY m') (mB m') (nlm m') (mRet m') ∈ gwl) (hy : (mY m').cls ≠ "java/lang/invoke/MethodHandle" ∧ (mY m').cls ≠ "java/lang/invoke/VarHandle" ∧ (parseMethodDescriptor (mY m').desc).map (fun d => d.parameters.length) = some n) (hrk : mRk m' = 1) (hfm : mFr m' + 1 ≤ mFr mi) (hlm : 8 + (nlm m' + 11) + mLo m' ≤ mLo mi) (hnl : n ≤ nlm m') : SS mi pc (s_scallI m' n) := by
  intro N p l e R s m args below meth c Q cells slots adr D cI cC cG A0 H0 σ0 C K r F hZ hC hK hR ls st σ lsA H locs h hw hl
  obtain ⟨hx, hb, hml, hown, hts, hKK, hfr, hlo, hce, hsl, hnw, hinj, hA0, hcl0, hN40⟩ := id F
  unfold s_scallI at h
  by_cases c1 : (st.drop n).length ≤ 4 ∧ n ≤ st.length ∧ (st.take n).all gA = true
  case neg => rw [if_neg c1] at h; cases h
  rw [if_pos c1] at h
  obtain ⟨x, σ1, e1, e2⟩ := kcI_some h
  obtain ⟨hM, hi⟩ := hC _ _ _ _ e1 hfm (by rw [List.all_reverse]; exact c1.2.2) (by rw [List.length_reverse, List.length_take]; omega) (low_r hw)
  have hc := stk_cat adr (st.drop n)
  have hasz : (stk adr (st.take n).reverse).length = n := by
    unfold stk
    rw [List.length_map, List.length_reverse, List.length_take]
    omega
  have hrun := va_runS (rest := stk adr (st.drop n)) (g := F0 m pc lsA (stk adr st)) (locs := locs) (cells := cells) (slots := slots) (p := p) (e := e) (below := below) (meth := meth) ⟨hx, hb, hml, hown, hts⟩ hM (va_cwS n hts (own := (mY mi).cls) (index := idx) (fun w hw9 => by
        rcases List.mem_append.mp hw9 with hw9 | hw9
        · refine gw_good (ws := [.methodLink (mY mi).cls idx (mY m'), .static (mY m'), .initialized (mY m').cls]) (fun w hw8 => ?_) w hw9
          simp only [List.mem_cons, List.not_mem_nil, or_false] at hw8
          rcases hw8 with rfl | rfl | rfl <;> assumption
        · refine gw_good (ws := mW m') (fun w hw8 => ?_) w hw9
          rcases List.mem_cons.mp hw8 with rfl | hw7
          · exact hw5
          · exact hw7) rfl rfl rfl hy ⟨Nat.le_trans hfm hfr, Nat.le_trans hlm hlo⟩) ⟨Ok_blind, fun U hU hW => ⟨rfl, by rw [hU]; exact hl.2.2.1, va_K.moved hW.alike hKK, va_Nw.warmM hW hnw⟩⟩ rfl hasz hl.1.1 (stk_splitS adr st n) (lv_room (by omega)) hd ⟨hce, hsl⟩
  refine am_after hrun hl.2.2.2.1 (AP_sub hA0) (fun H1 locs1 hP hS => ?_)
  have k0 := hK _ _ _ _ e2 (low_i (low_d hw)) _ _ _ (hl.call hi hP hS)
  rw [hrk]
  exact k0
theorem ss_scallV {mi pc idx m' n : Nat} (hd : decode (mB mi) pc = .ok (.invokestatic idx, 3)) (hw1 : Cond.methodLink (mY mi).cls idx (mY m') ∈ gwl) (hw2 : Cond.static (mY m') ∈ gwl) (hw4 : Cond.initialized (mY m').cls ∈ gwl) (hw5 : Cond.code (mY m') (mB m') (nlm m') (mRet m') ∈ gwl) (hy : (mY m').cls ≠ "java/lang/invoke/MethodHandle" ∧ (mY m').cls ≠ "java/lang/invoke/VarHandle" ∧ (parseMethodDescriptor (mY m').desc).map (fun d => d.parameters.length) = some n) (hrk : mRk m' = 0) (hfm : mFr m' + 1 ≤ mFr mi) (hlm : 8 + (nlm m' + 11) + mLo m' ≤ mLo mi) (hnl : n ≤ nlm m') : SS mi pc (s_scallV m' n) := by
  intro N p l e R s m args below meth c Q cells slots adr D cI cC cG A0 H0 σ0 C K r F hZ hC hK hR ls st σ lsA H locs h hw hl
  obtain ⟨hx, hb, hml, hown, hts, hKK, hfr, hlo, hce, hsl, hnw, hinj, hA0, hcl0, hN40⟩ := id F
  unfold s_scallV at h
  by_cases c1 : (st.drop n).length ≤ 4 ∧ n ≤ st.length ∧ (st.take n).all gA = true
  case neg => rw [if_neg c1] at h; cases h
  rw [if_pos c1] at h
  obtain ⟨v, σ1, e1, e2⟩ := kcV_some h
  obtain ⟨hM, hi⟩ := hC _ _ _ _ e1 hfm (by rw [List.all_reverse]; exact c1.2.2) (by rw [List.length_reverse, List.length_take]; omega) (low_r hw)
  have hc := stk_cat adr (st.drop n)
  have hasz : (stk adr (st.take n).reverse).length = n := by
    unfold stk
    rw [List.length_map, List.length_reverse, List.length_take]
    omega
  have hrun := va_runS (rest := stk adr (st.drop n)) (g := F0 m pc lsA (stk adr st)) (locs := locs) (cells := cells) (slots := slots) (p := p) (e := e) (below := below) (meth := meth) ⟨hx, hb, hml, hown, hts⟩ hM (va_cwS n hts (own := (mY mi).cls) (index := idx) (fun w hw9 => by
        rcases List.mem_append.mp hw9 with hw9 | hw9
        · refine gw_good (ws := [.methodLink (mY mi).cls idx (mY m'), .static (mY m'), .initialized (mY m').cls]) (fun w hw8 => ?_) w hw9
          simp only [List.mem_cons, List.not_mem_nil, or_false] at hw8
          rcases hw8 with rfl | rfl | rfl <;> assumption
        · refine gw_good (ws := mW m') (fun w hw8 => ?_) w hw9
          rcases List.mem_cons.mp hw8 with rfl | hw7
          · exact hw5
          · exact hw7) rfl rfl rfl hy ⟨Nat.le_trans hfm hfr, Nat.le_trans hlm hlo⟩) ⟨Ok_blind, fun U hU hW => ⟨rfl, by rw [hU]; exact hl.2.2.1, va_K.moved hW.alike hKK, va_Nw.warmM hW hnw⟩⟩ rfl hasz hl.1.1 (stk_splitS adr st n) (lv_room (by omega)) hd ⟨hce, hsl⟩
  refine am_after hrun hl.2.2.2.1 (AP_sub hA0) (fun H1 locs1 hP hS => ?_)
  have k0 := hK _ _ _ _ e2 (low_d hw) _ _ _ (hl.call hi hP hS)
  rw [hrk]
  exact k0
theorem ss_ncallV {mi pc idx m' n : Nat} {host : String} (hd : decode (mB mi) pc = .ok (.invokestatic idx, 3)) (hw1 : nestW = Cond.methodLinkNest (mY mi).cls idx (mY m') host) (hw2 : Cond.static (mY m') ∈ gwl) (hw4 : Cond.initialized (mY m').cls ∈ gwl) (hw5 : Cond.code (mY m') (mB m') (nlm m') (mRet m') ∈ gwl) (hy : (mY m').cls ≠ "java/lang/invoke/MethodHandle" ∧ (mY m').cls ≠ "java/lang/invoke/VarHandle" ∧ (parseMethodDescriptor (mY m').desc).map (fun d => d.parameters.length) = some n) (hrk : mRk m' = 0) (hfm : mFr m' + 1 ≤ mFr mi) (hlm : 8 + (nlm m' + 11) + mLo m' ≤ mLo mi) (hnl : n ≤ nlm m') : SS mi pc (s_scallV m' n) := by
  intro N p l e R s m args below meth c Q cells slots adr D cI cC cG A0 H0 σ0 C K r F hZ hC hK hR ls st σ lsA H locs h hw hl
  obtain ⟨hx, hb, hml, hown, hts, hKK, hfr, hlo, hce, hsl, hnw, hinj, hA0, hcl0, hN40⟩ := id F
  unfold s_scallV at h
  by_cases c1 : (st.drop n).length ≤ 4 ∧ n ≤ st.length ∧ (st.take n).all gA = true
  case neg => rw [if_neg c1] at h; cases h
  rw [if_pos c1] at h
  obtain ⟨v, σ1, e1, e2⟩ := kcV_some h
  obtain ⟨hM, hi⟩ := hC _ _ _ _ e1 hfm (by rw [List.all_reverse]; exact c1.2.2) (by rw [List.length_reverse, List.length_take]; omega) (low_r hw)
  have hc := stk_cat adr (st.drop n)
  have hasz : (stk adr (st.take n).reverse).length = n := by
    unfold stk
    rw [List.length_map, List.length_reverse, List.length_take]
    omega
  have hrun := va_runSN (host := host) (rest := stk adr (st.drop n)) (g := F0 m pc lsA (stk adr st)) (locs := locs) (cells := cells) (slots := slots) (p := p) (e := e) (below := below) (meth := meth) ⟨hx, hb, hml, hown, hts⟩ hM ⟨va_cnB n hts (own := (mY mi).cls) (index := idx) (fun w hw9 => by
        refine gw_good (ws := mW m') (fun w hw8 => ?_) w hw9
        rcases List.mem_cons.mp hw8 with rfl | hw7
        · exact hw5
        · exact hw7) rfl rfl rfl (by rw [← hw1]; exact hnw) (hts _ hw4) hy ⟨Nat.le_trans hfm hfr, Nat.le_trans hlm hlo⟩, hts _ hw2, trivial⟩ ⟨Ok_blind, fun U hU hW => ⟨rfl, by rw [hU]; exact hl.2.2.1, va_K.moved hW.alike hKK, va_Nw.warmM hW hnw⟩⟩ rfl hasz hl.1.1 (stk_splitS adr st n) (lv_room (by omega)) hd ⟨hce, hsl⟩
  refine am_after hrun hl.2.2.2.1 (AP_sub hA0) (fun H1 locs1 hP hS => ?_)
  have k0 := hK _ _ _ _ e2 (low_d hw) _ _ _ (hl.call hi hP hS)
  rw [hrk]
  exact k0
/-- all steps of a list are owed from a place on -/
def AllS (mi : Nat) : Nat → List Step → Prop
  | _, [] => True
  | i, f :: r => SS mi i f ∧ AllS mi (i + 1) r
theorem AllS.at {mi : Nat} : ∀ {o : Nat} {l : List Step} {i : Nat} {f : Step}, AllS mi o l → l[i]? = some f → SS mi (o + i) f
  | _, [], _, _, _, h => by simp at h
  | o, g :: r, 0, f, ha, h => by
    cases h
    exact ha.1
  | o, g :: r, i + 1, f, ha, h => by
    have := ha.2.at (i := i) (f := f) h
    rw [show o + (i + 1) = o + 1 + i by omega]
    exact this
/-- a stretch of a method -/
theorem am_body (N : Nat) (mi : Nat) (hSS : ∀ pc f, (cdm mi)[pc]? = some f → SS mi pc f) (p : Program) (l : Launch) (e : Env) (R : Room) (s : State) (m : MethodId) (args : Array Value) (below : List Frame) (meth : Method) (c : Code) (Q : State → Prop) (cells slots : Nat) (adr : Nat → Nat) (D : va_G) (cI cC cG : ClassId) (A0 : Nat → Prop) (H0 : Heap) (σ0 : Sg) (r : AV × Sg) (F : Fx N mi p R s m args c cells slots adr D cI cC cG A0) (hZ : mi = lawN → Scr adr s A0 H0 σ0)
    (hC : ∀ m' as σ' q, Cal m' as σ' = some q → mFr m' + 1 ≤ mFr mi → as.all gA = true → as.length ≤ nlm m' → low N as → Ok N l adr D cI cC cG m' as σ' q)
    (hR : ∀ pc' lsA' H' locs' st', va_P D vwCl (cs N adr cI cC cG r.2) H' → va_S A0 H0 H' locs' → (∀ q j, nP ≤ q → r.2 q j = σ0 q j) → RetAt mi pc' r.1 adr st' → W p l e R s m args below meth c H' locs' cells slots Q (F0 m pc' lsA' st')) :
    ∀ n pc ls st σ lsA H locs, arun cdm nlm n mi pc ls st σ = some r → low N st → Rl N mi adr D cI cC cG A0 H0 σ0 σ ls lsA H locs → W p l e R s m args below meth c H locs cells slots Q (F0 m pc lsA (stk adr st))
  | 0, _, _, _, _, _, _, _ => fun h _ _ => by cases h
  | n + 1, pc, ls, st, σ, lsA, H, locs => fun h hw hl => by
    unfold arun at h
    cases hc : (cdm mi)[pc]? with
    | none => rw [hc] at h; cases h
    | some f =>
      rw [hc] at h
      exact hSS pc f hc N p l e R s m args below meth c Q cells slots adr D cI cC cG A0 H0 σ0 _ _ r F hZ (fun m' as σ' q hq hf h1 h2 h3 => hC m' as σ' q ((RunF_iff (hF := hF)).mpr ⟨n, hq⟩) hf h1 h2 h3) (fun pc' ls' st' σ' hk hw' lsA' H' locs' hl' => am_body N mi hSS p l e R s m args below meth c Q cells slots adr D cI cC cG A0 H0 σ0 r F hZ hC hR n pc' ls' st' σ' lsA' H' locs' hk hw' hl') hR ls st σ lsA H locs h hw hl
theorem lmap_ent (adr : Nat → Nat) : ∀ (as : List AV) (o k : Nat), (∀ v ∈ as, ∀ x, v ≠ vL x) → (∀ v ∈ as, v ≠ vJ) → lmap adr o (as ++ List.replicate k vJ) = lv_args o (stk adr as)
  | [], o, k, _, _ => by
    show lmap adr o (List.replicate k vJ) = []
    induction k generalizing o with
    | zero => rfl
    | succ k ih => exact ih (o + 1)
  | v :: as, o, k, h1, h2 => by
    have ih := lmap_ent adr as (o + 1) k (fun w hw => h1 w (List.mem_cons_of_mem _ hw)) (fun w hw => h2 w (List.mem_cons_of_mem _ hw))
    rcases v with x | x | x | x
    · exact congrArg (List.cons _) ih
    · exact congrArg (List.cons _) ih
    · exact absurd rfl (h1 _ List.mem_cons_self x)
    · exact absurd rfl (h2 _ List.mem_cons_self)
theorem lg_len (adr : Nat → Nat) : ∀ (as : List AV), (∀ v ∈ as, ∀ x, v ≠ vL x) → (lg_sl (stk adr as)).length = as.length
  | [], _ => rfl
  | v :: as, h => by
    have ih := lg_len adr as (fun w hw => h w (List.mem_cons_of_mem _ hw))
    have e : lg_sl (stk adr (v :: as)) = (if (cvD adr v).category = 2 then [Slot.val (cvD adr v), .second] else [.val (cvD adr v)]) ++ lg_sl (stk adr as) := rfl
    rw [e, List.length_append, ih]
    have h2 : ¬ (cvD adr v).category = 2 := by
      rcases v with x | x | x | x
      · intro q; cases q
      · intro q; cases q
      · exact absurd rfl (h _ List.mem_cons_self x)
      · intro q; cases q
    rw [if_neg h2]
    show 1 + as.length = as.length + 1
    omega
theorem gA_no {as : List AV} (h : as.all gA = true) : (∀ v ∈ as, ∀ x, v ≠ vL x) ∧ (∀ v ∈ as, v ≠ vJ) := by
  have h1 := List.all_eq_true.mp h
  refine ⟨fun v hv x e => ?_, fun v hv e => ?_⟩
  · have := h1 v hv
    rw [e] at this
    cases this
  · have := h1 v hv
    rw [e] at this
    cases this
/-- THE THEOREM: what the abstract machine answers, the method does -/
theorem am_ok (N : Nat) (hcl0 : ∀ i k, i < N → lk i k < N) (hN40 : 40 ≤ N) (l : Launch) (adr : Nat → Nat) (D : va_G) (cI cC cG : ClassId) (hi : ∀ i j, i < N → j < N → adr i = adr j → i = j) (good : Nat → Prop) (hSS : ∀ mi, good mi → ∀ pc f, (cdm mi)[pc]? = some f → SS mi pc f) (hcl : ∀ mi m', good mi → mFr m' + 1 ≤ mFr mi → good m')
    (hpl : ∀ mi, good mi → plainName (mY mi).cls = true) (hnl : ∀ mi, good mi → mi ≠ lawN) :
    ∀ (k mi : Nat), mFr mi < k → good mi → ∀ (as : List AV) (σ : Sg) (r : AV × Sg), Cal mi as σ = some r → as.all gA = true → as.length ≤ nlm mi → low N as → Ok N l adr D cI cC cG mi as σ r
  | 0, mi, h, _ => by omega
  | k + 1, mi, h, hg => by
    intro as σ r hr hA hn hlow
    obtain ⟨n, hn2⟩ := (RunF_iff (hF := hF)).mp hr
    have hA2 := gA_no hA
    have hent : ∀ p s (m : MethodId) args below meth c s₁ e, BodyLoose p l (mY mi) (headSpec (mW mi) (mRm mi)) (mB mi) (nlm mi) (mRet mi) e s m args below meth c s₁ → c.maxLocals = nlm mi → va_Pc (stk adr as) (fun U => va_P D vwCl (cs N adr cI cC cG σ) U.heap ∧ va_K D vwCl (tys3 cI cC cG) U ∧ va_Nw nestW U) args s →
        ∀ Q : State → Prop, (∀ pc' lsA' H' locs' st', va_P D vwCl (cs N adr cI cC cG r.2) H' → va_S (AP N adr) s.heap H' locs' → (∀ q j, nP ≤ q → r.2 q j = σ q j) → RetAt mi pc' r.1 adr st' → W p l e (mRm mi) s m args below meth c H' locs' 0 0 Q (F0 m pc' lsA' st')) → W p l e (mRm mi) s m args below meth c s.heap [] 0 0 Q (entryFrame m args (nlm mi)) := by
      intro p s m args below meth c s₁ e B hml hv Q hR
      obtain ⟨rfl, hP, hK, hnw⟩ := hv
      have hts := atoms_spec (ws := mW mi) B.pre
      have F : Fx N mi p (mRm mi) s m (stk adr as).toArray c 0 0 adr D cI cC cG (AP N adr) := ⟨B.exec, B.bytes, hml, findClass_of_methodNamed B.named, fun w hw => hts w (List.mem_cons_of_mem _ hw), hK, Nat.le_refl _, Nat.le_refl _, Nat.le_refl _, Nat.le_refl _, hnw, hi, fun i hi => ⟨i, hi, rfl⟩, hcl0, hN40⟩
      have hl := lv_entry (stk adr as) (n := nlm mi) (by rw [lg_len adr as hA2.1]; exact hn)
      rw [lg_entry_eq]
      refine am_body N mi (hSS mi hg) p l e (mRm mi) s m _ below meth c Q 0 0 adr D cI cC cG (AP N adr) s.heap σ r F (fun z => absurd z (hnl mi hg)) (fun m' as' σ' q hq hf h1 h2 h3 => am_ok N hcl0 hN40 l adr D cI cC cG hi good hSS hcl hpl hnl k m' (by omega) (hcl mi m' hg hf) as' σ' q hq h1 h2 h3) hR n 0 (ent (nlm mi) as) [] σ _ s.heap [] hn2 (fun _ z => absurd z List.not_mem_nil) ?_
      refine ⟨?_, ?_, hP, va_S.rf, fun _ _ _ => rfl, ?_⟩
      · unfold ent
        rw [lmap_ent adr as 0 _ hA2.1 hA2.2]
        exact hl
      · intro j x hj
        exfalso
        unfold ent at hj
        have hm := List.mem_of_getElem? hj
        rcases List.mem_append.mp hm with q | q
        · exact hA2.1 _ q x rfl
        · have := List.eq_of_mem_replicate q
          cases this
      · intro v hv
        unfold ent at hv
        rcases List.mem_append.mp hv with q | q
        · exact hlow v q
        · rw [List.eq_of_mem_replicate q]; trivial
    refine ⟨Met.ofW (cc := mB mi) (maxL := nlm mi) (ret := mRet mi) (hpl mi hg) rfl ?_, ?_⟩
    · intro p e s m args below meth c s₁ B hml hv
      refine hent p s m args below meth c s₁ e B hml hv _ ?_
      intro pc' lsA' H' locs' st' hP' hS' _ hra
      have hlocks := B.notSynchronized
      have hret := B.returns
      rcases hra with ⟨h1, h2, h3, rfl⟩ | ⟨x, ty, h1, h2, h3, h4, h5, rfl⟩ | ⟨q, C, h1, h2, h3, h4, rfl⟩
      · refine W.vret B.exec B.bytes (hret.trans h2) (fun t ht _ => ⟨by rw [if_pos h1], by rw [ht]; exact hP', hS'.F ht⟩) hS'.2.2 h3
      · refine W.zret B.exec B.bytes (hret.trans h3) h4 (fun t ht _ => ⟨by rw [if_neg (by omega), h2]; rfl, by rw [ht]; exact hP', hS'.F ht⟩) hS'.2.2 h5
      · refine W.aret B.exec B.bytes (hret.trans h3) (Or.inl ⟨C, rfl⟩) (Or.inr ⟨_, rfl⟩) (fun t ht _ => ⟨by rw [if_neg (by omega), h2]; rfl, by rw [ht]; exact hP', hS'.F ht⟩) hS'.2.2 h4
    · exact arun_hi hF _ _ _ _ _ _ _ hn2
theorem ss_slen {pc : Nat} (hd : decode (mB lawN) pc = .ok (.arraylength, 1)) : SS lawN pc s_slen := by
  intro N p l e R s m args below meth c Q cells slots adr D cI cC cG A0 H0 σ0 C K r F hZ hC hK hR ls st σ lsA H locs h hw hl
  obtain ⟨hx, hb, hml, hown, hts, hKK, hfr, hlo, hce, hsl, hnw, hinj, hA0, hcl0, hN40⟩ := id F
  rcases st with _ | ⟨x0 | x0 | x0 | x0, st⟩
  all_goals first | (cases h; done) | skip
  have h : (if x0 = 99 then K (pc + 1) ls (vI (σ 98 0) :: st) σ else none) = some r := h
  by_cases c0 : x0 = 99
  case neg => rw [if_neg c0] at h; cases h
  rw [if_pos c0] at h
  subst c0
  obtain ⟨L, xs, hX, hbl, hbA, hL, hxs⟩ := hZ rfl
  have k0 := hK _ _ _ _ h (low_i (low_t hw)) _ _ _ hl
  have e0 : σ 98 0 = (L : Int) := (hl.2.2.2.2.1 98 0 (by decide)).trans hL
  refine va_slen hx hb hX hbl hbA hl.2.2.2.1 hd ?_
  rw [show Int32.ofNat L = Int32.ofInt (σ 98 0) by rw [e0]; rfl]
  exact k0
theorem ss_sald {pc : Nat} (hd : decode (mB lawN) pc = .ok (.iaload, 1)) : SS lawN pc s_sald := by
  intro N p l e R s m args below meth c Q cells slots adr D cI cC cG A0 H0 σ0 C K r F hZ hC hK hR ls st σ lsA H locs h hw hl
  obtain ⟨hx, hb, hml, hown, hts, hKK, hfr, hlo, hce, hsl, hnw, hinj, hA0, hcl0, hN40⟩ := id F
  rcases st with _ | ⟨x0 | x0 | x0 | x0, _ | ⟨x1 | x1 | x1 | x1, st⟩⟩
  all_goals first | (cases h; done) | skip
  have h9 : (if x1 = 99 then (if 0 ≤ wr x0 ∧ wr x0 < σ 98 0 then K (pc + 1) ls (vI (σ 99 (wr x0).toNat) :: st) σ else none) else none) = some r := h
  by_cases c0 : x1 = 99
  case neg => rw [if_neg c0] at h9; cases h9
  rw [if_pos c0] at h9
  by_cases c1 : 0 ≤ wr x0 ∧ wr x0 < σ 98 0
  case neg => rw [if_neg c1] at h9; cases h9
  rw [if_pos c1] at h9
  subst c0
  obtain ⟨L, xs, hX, hbl, hbA, hL, hxs⟩ := hZ rfl
  have k0 := hK _ _ _ _ h9 (low_i (low_t (low_t hw))) _ _ _ hl
  have e0 : σ 98 0 = (L : Int) := (hl.2.2.2.2.1 98 0 (by decide)).trans hL
  rw [e0] at c1
  refine va_sld hx hb hX hbl hbA hl.2.2.2.1 (w_in c1) hd ?_
  rw [w_cl c1.1, ← hxs _ (by omega), ← hl.2.2.2.2.1 99 _ (by decide)]
  exact k0
