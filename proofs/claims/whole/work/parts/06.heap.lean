/-! STEPS ON CELLS, CALLS, ENDS -/
theorem ss_getI {mi pc idx ci k N : Nat} {C : String} {T : u_T} (hd : decode (mB mi) pc = .ok (.getfield idx, 3)) (hcl : vwCl[ci]? = some (C, T, N)) (hwd : Cond.fieldLink (mY mi).cls idx (T k).1 (T k).2.1 (T k).2.2.1 ∈ gwl) (hin : ∀ w ∈ u_ws C T N, w ∈ gwl) (hk : k < N) (hkn : k < nf ci) (hr : isR ci k = false) (hci : ci < 10) : SS mi pc (s_getI ci k) := by
  intro N p l e R s m args below meth c Q cells slots adr D cI cC cG A0 H0 σ0 C K r F hZ hC hK hR ls st σ lsA H locs h hw hl
  obtain ⟨hx, hb, hml, hown, hts, hKK, hfr, hlo, hce, hsl, hnw, hinj, hA0, hcl0, hN40⟩ := id F
  rcases st with _ | ⟨x0 | x0 | x0 | x0, st⟩
  all_goals first | (cases h; done) | skip
  have h : (if kd x0 = ci then K (pc + 3) ls (vI (σ x0 k) :: st) σ else none) = some r := h
  by_cases c0 : kd x0 = ci
  · rw [if_pos c0] at h
    have hp := low_p hw c0 (by omega)
    have he := (cs_at (N := N) (adr := adr) (cI := cI) (cC := cC) (cG := cG) (σ := σ) hp).trans (by rw [cE_o c0 hci])
    exact va_get hx hb hts hin hown hKK hl.2.2.1 x0 he hcl k hk (hts _ hwd) (fun _ z => z) ((fsO_at hkn).trans (by rw [hr]; rfl)) hd (hK _ _ _ _ h (low_i (low_t hw)) _ _ _ hl)
  · rw [if_neg c0] at h; cases h
theorem ss_getR {mi pc idx ci k N : Nat} {C : String} {T : u_T} (hd : decode (mB mi) pc = .ok (.getfield idx, 3)) (hcl : vwCl[ci]? = some (C, T, N)) (hwd : Cond.fieldLink (mY mi).cls idx (T k).1 (T k).2.1 (T k).2.2.1 ∈ gwl) (hin : ∀ w ∈ u_ws C T N, w ∈ gwl) (hk : k < N) (hkn : k < nf ci) (hr : isR ci k = true) (hci : ci < 10) : SS mi pc (s_getR ci k) := by
  intro N p l e R s m args below meth c Q cells slots adr D cI cC cG A0 H0 σ0 C K r F hZ hC hK hR ls st σ lsA H locs h hw hl
  obtain ⟨hx, hb, hml, hown, hts, hKK, hfr, hlo, hce, hsl, hnw, hinj, hA0, hcl0, hN40⟩ := id F
  rcases st with _ | ⟨x0 | x0 | x0 | x0, st⟩
  all_goals first | (cases h; done) | skip
  have h : (if kd x0 = ci then K (pc + 3) ls (vR (lk x0 k) :: st) σ else none) = some r := h
  by_cases c0 : kd x0 = ci
  · rw [if_pos c0] at h
    have hp := low_p hw c0 (by omega)
    have he := (cs_at (N := N) (adr := adr) (cI := cI) (cC := cC) (cG := cG) (σ := σ) hp).trans (by rw [cE_o c0 hci])
    exact va_get hx hb hts hin hown hKK hl.2.2.1 x0 he hcl k hk (hts _ hwd) (fun _ z => z) ((fsO_at hkn).trans (by rw [hr]; rfl)) hd (hK _ _ _ _ h (low_c (Or.inl (hcl0 _ _ hp)) (low_t hw)) _ _ _ hl)
  · rw [if_neg c0] at h; cases h
theorem ss_putI {mi pc idx ci k N : Nat} {C : String} {T : u_T} {ty0 : Nat → FieldType} (hd : decode (mB mi) pc = .ok (.putfield idx, 3)) (hcl : vwCl[ci]? = some (C, T, N)) (hwd : Cond.fieldLink (mY mi).cls idx (T k).1 (T k).2.1 (T k).2.2.1 ∈ gwl) (hin : ∀ w ∈ u_ws C T N, w ∈ gwl) (hty : ∀ k, k < N → parseFieldDescriptor (T k).2.2.1 = some (ty0 k)) (hnm : ∀ a, a < N → ∀ b, b < N → a ≠ b → (T a).2.1 ≠ (T b).2.1) (hfin : (T k).2.2.2 = false) (hpd : parseFieldDescriptor (T k).2.2.1 = some .int) (hk : k < N) (hkn : k < nf ci) (hr : isR ci k = false) (hci : ci < 10) : SS mi pc (s_putI ci k) := by
  intro N p l e R s m args below meth c Q cells slots adr D cI cC cG A0 H0 σ0 C K r F hZ hC hK hR ls st σ lsA H locs h hw hl
  obtain ⟨hx, hb, hml, hown, hts, hKK, hfr, hlo, hce, hsl, hnw, hinj, hA0, hcl0, hN40⟩ := id F
  rcases st with _ | ⟨x0 | x0 | x0 | x0, _ | ⟨x1 | x1 | x1 | x1, st⟩⟩
  all_goals first | (cases h; done) | skip
  have h : (if kd x1 = ci then K (pc + 3) ls st (up σ x1 k x0) else none) = some r := h
  by_cases c0 : kd x1 = ci
  · rw [if_pos c0] at h
    have hp := low_p (low_t hw) c0 (by omega)
    have hpn := kd_lt c0 (by omega)
    have he := (cs_at (N := N) (adr := adr) (cI := cI) (cC := cC) (cG := cG) (σ := σ) hp).trans (by rw [cE_o c0 hci])
    exact va_put hx hb hts hin ty0 hty hnm hown hKK hl.2.2.1 (cs_D hinj hA0) hl.2.2.2.1 x1 he hcl k hk (hts _ hwd) (fun _ z => z) hfin hpd rfl rfl (by rw [fsO_len]; exact hkn) hd (fun H1 locs1 hP hD hS => hK _ _ _ _ h (low_t (low_t hw)) _ _ _ (hl.put hp hpn (fun q hq => up_ne hq) (cE_upF c0 hci hkn hr) hP hS))
  · rw [if_neg c0] at h; cases h
theorem ss_putZ {mi pc idx ci k N : Nat} {C : String} {T : u_T} {ty0 : Nat → FieldType} (hd : decode (mB mi) pc = .ok (.putfield idx, 3)) (hcl : vwCl[ci]? = some (C, T, N)) (hwd : Cond.fieldLink (mY mi).cls idx (T k).1 (T k).2.1 (T k).2.2.1 ∈ gwl) (hin : ∀ w ∈ u_ws C T N, w ∈ gwl) (hty : ∀ k, k < N → parseFieldDescriptor (T k).2.2.1 = some (ty0 k)) (hnm : ∀ a, a < N → ∀ b, b < N → a ≠ b → (T a).2.1 ≠ (T b).2.1) (hfin : (T k).2.2.2 = false) (hpd : parseFieldDescriptor (T k).2.2.1 = some .boolean) (hk : k < N) (hkn : k < nf ci) (hr : isR ci k = false) (hci : ci < 10) : SS mi pc (s_putZ ci k) := by
  intro N p l e R s m args below meth c Q cells slots adr D cI cC cG A0 H0 σ0 C K r F hZ hC hK hR ls st σ lsA H locs h hw hl
  obtain ⟨hx, hb, hml, hown, hts, hKK, hfr, hlo, hce, hsl, hnw, hinj, hA0, hcl0, hN40⟩ := id F
  rcases st with _ | ⟨x0 | x0 | x0 | x0, _ | ⟨x1 | x1 | x1 | x1, st⟩⟩
  all_goals first | (cases h; done) | skip
  have h : (if kd x1 = ci then (if x0 = 0 ∨ x0 = 1 then K (pc + 3) ls st (up σ x1 k x0) else none) else none) = some r := h
  by_cases c0 : kd x1 = ci
  · rw [if_pos c0] at h
    by_cases c1 : x0 = 0 ∨ x0 = 1
    case neg => rw [if_neg c1] at h; cases h
    rw [if_pos c1] at h
    have hn : narrow .boolean (.int (Int32.ofInt x0)) = .int (Int32.ofInt x0) := by rcases c1 with rfl | rfl <;> rfl
    have hfi : fits .boolean (.int (Int32.ofInt x0)) = true := by rcases c1 with rfl | rfl <;> rfl
    have hp := low_p (low_t hw) c0 (by omega)
    have hpn := kd_lt c0 (by omega)
    have he := (cs_at (N := N) (adr := adr) (cI := cI) (cC := cC) (cG := cG) (σ := σ) hp).trans (by rw [cE_o c0 hci])
    exact va_put hx hb hts hin ty0 hty hnm hown hKK hl.2.2.1 (cs_D hinj hA0) hl.2.2.2.1 x1 he hcl k hk (hts _ hwd) (fun _ z => z) hfin hpd hn hfi (by rw [fsO_len]; exact hkn) hd (fun H1 locs1 hP hD hS => hK _ _ _ _ h (low_t (low_t hw)) _ _ _ (hl.put hp hpn (fun q hq => up_ne hq) (cE_upF c0 hci hkn hr) hP hS))
  · rw [if_neg c0] at h; cases h
section VAM
variable {p : Program} {l : Launch} {e : Env} {R : Room} {s : State} {m : MethodId} {args : Array Value} {below : List Frame} {meth : Method} {c : Code} {H : Heap} {locs : List Loc} {cells slots : Nat} {Q : State → Prop}
variable {cc : ByteArray} {pc : Nat} {ls : Array Slot} {rest : List Value} {D : va_G} {cl : List vw_C} {A : Nat → Prop} {a : Nat} {tys : List (ClassId × FieldType)} {ws : va_W} {H0 : Heap}
theorem am_aldm (hexec : p.tables.exec = Jvm.exec) (hb : c.code = cc) (hK : va_K D cl tys s) (hP : va_P D cl ws H) (q0 t0 : Nat) {cA : ClassId} {ty : FieldType} {n : Nat} {f : Nat → Option Nat} (ha : ws[q0]? = some (a, .inl (cA, n, .inr (.inr (.inr (.inr f)))))) (ht : tys[t0]? = some (cA, .array ty)) {i : Int32} (hin : vp_in i n) (hdg : decode cc pc = .ok (.aaload, 1))
    (kk : W p l e R s m args below meth c H locs cells slots Q (F0 m (pc + 1) ls (va_rf (f i.toNatClampNeg) :: rest))) : W p l e R s m args below meth c H locs cells slots Q (F0 m pc ls (.int i :: .ref a :: rest)) := by
  have hlt : i.toNatClampNeg < n := Nat.not_le.mp fun q => hin (Or.inr q)
  exact W.aald (v := va_rf (f i.toNatClampNeg)) (ty := .array ty) hexec hb (hP q0 _ ha) ((hK.2 t0 _ ht).1 n (fun j => va_rf (f j))) rfl (fun q => by cases q) (by show ¬ (i < 0 ∨ (arrV _ _ _).slots.size ≤ _); rw [arrV_size]; exact hin) (by show (arrV _ _ _).slots[_]? = _; rw [arrV_read _ _ hlt]) rfl rfl hdg kk
end VAM
theorem ss_iald {mi pc : Nat} (hd : decode (mB mi) pc = .ok (.iaload, 1)) : SS mi pc s_iald := by
  intro N p l e R s m args below meth c Q cells slots adr D cI cC cG A0 H0 σ0 C K r F hZ hC hK hR ls st σ lsA H locs h hw hl
  obtain ⟨hx, hb, hml, hown, hts, hKK, hfr, hlo, hce, hsl, hnw, hinj, hA0, hcl0, hN40⟩ := id F
  rcases st with _ | ⟨x0 | x0 | x0 | x0, _ | ⟨x1 | x1 | x1 | x1, st⟩⟩
  all_goals first | (cases h; done) | skip
  have h : (if kd x1 = 10 then (if 0 ≤ wr x0 ∧ wr x0 < ln x1 then K (pc + 1) ls (vI (σ x1 (wr x0).toNat) :: st) σ else none) else none) = some r := h
  by_cases c0 : kd x1 = 10
  case neg => rw [if_neg c0] at h; cases h
  rw [if_pos c0] at h
  by_cases c1 : 0 ≤ wr x0 ∧ wr x0 < ln x1
  case neg => rw [if_neg c1] at h; cases h
  rw [if_pos c1] at h
  have hp := low_p (low_t hw) c0 (by omega)
  have he := (cs_at (N := N) (adr := adr) (cI := cI) (cC := cC) (cG := cG) (σ := σ) hp).trans (by rw [cE_i c0])
  have k0 := hK _ _ _ _ h (low_i (low_t (low_t hw))) _ _ _ hl
  exact va_iald hx hb hKK hl.2.2.1 x1 0 he rfl (w_in c1) hd k0
theorem ss_cald {mi pc : Nat} (hd : decode (mB mi) pc = .ok (.caload, 1)) : SS mi pc s_cald := by
  intro N p l e R s m args below meth c Q cells slots adr D cI cC cG A0 H0 σ0 C K r F hZ hC hK hR ls st σ lsA H locs h hw hl
  obtain ⟨hx, hb, hml, hown, hts, hKK, hfr, hlo, hce, hsl, hnw, hinj, hA0, hcl0, hN40⟩ := id F
  rcases st with _ | ⟨x0 | x0 | x0 | x0, _ | ⟨x1 | x1 | x1 | x1, st⟩⟩
  all_goals first | (cases h; done) | skip
  have h : (if kd x1 = 11 then (if 0 ≤ wr x0 ∧ wr x0 < ln x1 then K (pc + 1) ls (vI (σ x1 (wr x0).toNat) :: st) σ else none) else none) = some r := h
  by_cases c0 : kd x1 = 11
  case neg => rw [if_neg c0] at h; cases h
  rw [if_pos c0] at h
  by_cases c1 : 0 ≤ wr x0 ∧ wr x0 < ln x1
  case neg => rw [if_neg c1] at h; cases h
  rw [if_pos c1] at h
  have hp := low_p (low_t hw) c0 (by omega)
  have he := (cs_at (N := N) (adr := adr) (cI := cI) (cC := cC) (cG := cG) (σ := σ) hp).trans (by rw [cE_c c0])
  have k0 := hK _ _ _ _ h (low_i (low_t (low_t hw))) _ _ _ hl
  exact va_cald hx hb hKK hl.2.2.1 x1 1 he rfl (w_in c1) hd k0
theorem ss_aald {mi pc : Nat} (hd : decode (mB mi) pc = .ok (.aaload, 1)) : SS mi pc s_aald := by
  intro N p l e R s m args below meth c Q cells slots adr D cI cC cG A0 H0 σ0 C K r F hZ hC hK hR ls st σ lsA H locs h hw hl
  obtain ⟨hx, hb, hml, hown, hts, hKK, hfr, hlo, hce, hsl, hnw, hinj, hA0, hcl0, hN40⟩ := id F
  rcases st with _ | ⟨x0 | x0 | x0 | x0, _ | ⟨x1 | x1 | x1 | x1, st⟩⟩
  all_goals first | (cases h; done) | skip
  have h : (if kd x1 = 12 then (if 0 ≤ wr x0 ∧ wr x0 < ln x1 then K (pc + 1) ls (vR (lk x1 (wr x0).toNat) :: st) σ else none) else none) = some r := h
  by_cases c0 : kd x1 = 12
  case neg => rw [if_neg c0] at h; cases h
  rw [if_pos c0] at h
  by_cases c1 : 0 ≤ wr x0 ∧ wr x0 < ln x1
  case neg => rw [if_neg c1] at h; cases h
  rw [if_pos c1] at h
  have hp := low_p (low_t hw) c0 (by omega)
  have he := (cs_at (N := N) (adr := adr) (cI := cI) (cC := cC) (cG := cG) (σ := σ) hp).trans (by rw [cE_g c0])
  have k0 := hK _ _ _ _ h (low_c (Or.inl (hcl0 _ _ hp)) (low_t (low_t hw))) _ _ _ hl
  exact am_aldm hx hb hKK hl.2.2.1 x1 2 he rfl (w_in c1) hd k0
theorem ss_iast {mi pc : Nat} (hd : decode (mB mi) pc = .ok (.iastore, 1)) : SS mi pc s_iast := by
  intro N p l e R s m args below meth c Q cells slots adr D cI cC cG A0 H0 σ0 C K r F hZ hC hK hR ls st σ lsA H locs h hw hl
  obtain ⟨hx, hb, hml, hown, hts, hKK, hfr, hlo, hce, hsl, hnw, hinj, hA0, hcl0, hN40⟩ := id F
  rcases st with _ | ⟨x0 | x0 | x0 | x0, _ | ⟨x1 | x1 | x1 | x1, _ | ⟨x2 | x2 | x2 | x2, st⟩⟩⟩
  all_goals first | (cases h; done) | skip
  have h : (if kd x2 = 10 then (if 0 ≤ wr x1 ∧ wr x1 < ln x2 then K (pc + 1) ls st (up σ x2 (wr x1).toNat x0) else none) else none) = some r := h
  by_cases c0 : kd x2 = 10
  case neg => rw [if_neg c0] at h; cases h
  rw [if_pos c0] at h
  by_cases c1 : 0 ≤ wr x1 ∧ wr x1 < ln x2
  case neg => rw [if_neg c1] at h; cases h
  rw [if_pos c1] at h
  have hp := low_p (low_t (low_t hw)) c0 (by omega)
  have hpn := kd_lt c0 (by omega)
  have he := (cs_at (N := N) (adr := adr) (cI := cI) (cC := cC) (cG := cG) (σ := σ) hp).trans (by rw [cE_i c0])
  exact va_iast hx hb hKK hl.2.2.1 (cs_D hinj hA0) hl.2.2.2.1 x2 0 he rfl (w_in c1) hd (fun H1 locs1 hP hD hS => hK _ _ _ _ h (low_t (low_t (low_t hw))) _ _ _ (hl.put hp hpn (fun q hq => up_ne hq) (cE_upI c0) hP hS))
theorem w_char {x : Int} (h : 0 ≤ x ∧ x < 65536) : vp_nar .char (Int32.ofInt x) = Int32.ofInt x := by
  have e : vp_nar .char (Int32.ofInt x) = ((Int32.ofInt x).toUInt32 % 65536).toInt32 := vp_nar_char _
  rw [e, w_i2c, Int.emod_eq_of_lt h.1 h.2]
theorem ss_cast {mi pc : Nat} (hd : decode (mB mi) pc = .ok (.castore, 1)) : SS mi pc s_cast := by
  intro N p l e R s m args below meth c Q cells slots adr D cI cC cG A0 H0 σ0 C K r F hZ hC hK hR ls st σ lsA H locs h hw hl
  obtain ⟨hx, hb, hml, hown, hts, hKK, hfr, hlo, hce, hsl, hnw, hinj, hA0, hcl0, hN40⟩ := id F
  rcases st with _ | ⟨x0 | x0 | x0 | x0, _ | ⟨x1 | x1 | x1 | x1, _ | ⟨x2 | x2 | x2 | x2, st⟩⟩⟩
  all_goals first | (cases h; done) | skip
  have h : (if kd x2 = 11 then (if (0 ≤ wr x1 ∧ wr x1 < ln x2) ∧ 0 ≤ x0 ∧ x0 < 65536 then K (pc + 1) ls st (up σ x2 (wr x1).toNat x0) else none) else none) = some r := h
  by_cases c0 : kd x2 = 11
  case neg => rw [if_neg c0] at h; cases h
  rw [if_pos c0] at h
  by_cases c1 : (0 ≤ wr x1 ∧ wr x1 < ln x2) ∧ 0 ≤ x0 ∧ x0 < 65536
  case neg => rw [if_neg c1] at h; cases h
  rw [if_pos c1] at h
  have hp := low_p (low_t (low_t hw)) c0 (by omega)
  have hpn := kd_lt c0 (by omega)
  have he := (cs_at (N := N) (adr := adr) (cI := cI) (cC := cC) (cG := cG) (σ := σ) hp).trans (by rw [cE_c c0])
  exact va_cast hx hb hKK hl.2.2.1 (cs_D hinj hA0) hl.2.2.2.1 x2 1 he rfl (w_in c1.1) hd (fun H1 locs1 hP hD hS => hK _ _ _ _ h (low_t (low_t (low_t hw))) _ _ _ (hl.put hp hpn (fun q hq => up_ne hq) (by rw [w_char c1.2]; exact cE_upC c0) hP hS))
theorem ss_alen {mi pc : Nat} (hd : decode (mB mi) pc = .ok (.arraylength, 1)) : SS mi pc s_alen := by
  intro N p l e R s m args below meth c Q cells slots adr D cI cC cG A0 H0 σ0 C K r F hZ hC hK hR ls st σ lsA H locs h hw hl
  obtain ⟨hx, hb, hml, hown, hts, hKK, hfr, hlo, hce, hsl, hnw, hinj, hA0, hcl0, hN40⟩ := id F
  rcases st with _ | ⟨x0 | x0 | x0 | x0, st⟩
  all_goals first | (cases h; done) | skip
  have h : (if 10 ≤ kd x0 ∧ kd x0 < 13 then K (pc + 1) ls (vI (ln x0) :: st) σ else none) = some r := h
  by_cases c0 : 10 ≤ kd x0 ∧ kd x0 < 13
  case neg => rw [if_neg c0] at h; cases h
  rw [if_pos c0] at h
  have hp : x0 < N := low_p (c := kd x0) hw rfl (by omega)
  have k0 := hK _ _ _ _ h (low_i (low_t hw)) _ _ _ hl
  rcases (show kd x0 = 10 ∨ kd x0 = 11 ∨ kd x0 = 12 by omega) with q | q | q
  · exact va_alen hx hb hKK hl.2.2.1 x0 0 ((cs_at (N := N) (adr := adr) (cI := cI) (cC := cC) (cG := cG) (σ := σ) hp).trans (by rw [cE_i q])) rfl (v := Int32.ofInt (ln x0)) rfl hd k0
  · exact va_alen hx hb hKK hl.2.2.1 x0 1 ((cs_at (N := N) (adr := adr) (cI := cI) (cC := cC) (cG := cG) (σ := σ) hp).trans (by rw [cE_c q])) rfl (v := Int32.ofInt (ln x0)) rfl hd k0
  · exact va_alen hx hb hKK hl.2.2.1 x0 2 ((cs_at (N := N) (adr := adr) (cI := cI) (cC := cC) (cG := cG) (σ := σ) hp).trans (by rw [cE_g q])) rfl (v := Int32.ofInt (ln x0)) rfl hd k0
theorem stk_cat (adr : Nat → Nat) : ∀ st : List AV, ((stk adr st).map fun v => v.category).sum ≤ 2 * st.length
  | [] => Nat.le_refl _
  | v :: st => by
    have ih := stk_cat adr st
    have h1 : (cvD adr v).category ≤ 2 := by rcases lv_cat (cvD adr v) with q | q <;> omega
    show (cvD adr v).category + ((stk adr st).map fun v => v.category).sum ≤ 2 * (st.length + 1)
    omega
theorem ss_copy {mi pc idx : Nat} (hd : decode (mB mi) pc = .ok (.invokestatic idx, 3)) (h1 : Cond.methodLink (mY mi).cls idx arraycopyName ∈ gwl) (h2 : Cond.native arraycopyName ∈ gwl) (h3 : Cond.static arraycopyName ∈ gwl) (h4 : Cond.initialized "java/lang/System" ∈ gwl) (hf : 1 ≤ mFr mi) (hlm : 26 ≤ mLo mi) : SS mi pc s_copy := by
  intro N p l e R s m args below meth c Q cells slots adr D cI cC cG A0 H0 σ0 C K r F hZ hC hK hR ls st σ lsA H locs h hw hl
  obtain ⟨hx, hb, hml, hown, hts, hKK, hfr, hlo, hce, hsl, hnw, hinj, hA0, hcl0, hN40⟩ := id F
  rcases st with _ | ⟨x0 | x0 | x0 | x0, _ | ⟨x1 | x1 | x1 | x1, _ | ⟨x2 | x2 | x2 | x2, _ | ⟨x3 | x3 | x3 | x3, _ | ⟨x4 | x4 | x4 | x4, st⟩⟩⟩⟩⟩
  all_goals first | (cases h; done) | skip
  have h : (if kd x4 = 10 ∧ kd x2 = 10 ∧ st.length ≤ 4 then (if 0 ≤ wr x3 ∧ 0 ≤ wr x1 ∧ 0 ≤ wr x0 ∧ wr x3 + wr x0 ≤ ln x4 ∧ wr x1 + wr x0 ≤ ln x2 then K (pc + 3) ls st (cpy σ x4 (wr x3).toNat x2 (wr x1).toNat (wr x0).toNat) else none) else none) = some r := h
  by_cases c0 : kd x4 = 10 ∧ kd x2 = 10 ∧ st.length ≤ 4
  case neg => rw [if_neg c0] at h; cases h
  rw [if_pos c0] at h
  by_cases c1 : 0 ≤ wr x3 ∧ 0 ≤ wr x1 ∧ 0 ≤ wr x0 ∧ wr x3 + wr x0 ≤ ln x4 ∧ wr x1 + wr x0 ≤ ln x2
  case neg => rw [if_neg c1] at h; cases h
  rw [if_pos c1] at h
  obtain ⟨q1, q2, q3, q4, q5⟩ := c1
  have hp4 := low_p (low_t (low_t (low_t (low_t hw)))) c0.1 (by omega)
  have hpn2 := kd_lt c0.2.1 (by omega)
  have hp2 := low_p (low_t (low_t hw)) c0.2.1 (by omega)
  have he4 := (cs_at (N := N) (adr := adr) (cI := cI) (cC := cC) (cG := cG) (σ := σ) hp4).trans (by rw [cE_i c0.1])
  have he2 := (cs_at (N := N) (adr := adr) (cI := cI) (cC := cC) (cG := cG) (σ := σ) hp2).trans (by rw [cE_i c0.2.1])
  have hc : ((st.map (cvD adr)).map fun v => v.category).sum ≤ 2 * st.length := stk_cat adr st
  have hwd : nativeFrameWords "java/lang/System" "arraycopy" 5 = 7 := by decide
  refine va_copyi hx hb (hml.trans hl.1.1.symm) hown (hts _ h1) (hts _ h2) (hts _ h3) (hts _ h4) hKK hl.2.2.1 (cs_D hinj hA0) hl.2.2.2.1 x4 x2 0 0 he4 he2 rfl rfl rfl (fun z => absurd ((w_lt0 _).mp z) (by omega)) (fun z => absurd ((w_lt0 _).mp z) (by omega)) (fun z => absurd ((w_lt0 _).mp z) (by omega)) ?_ ?_ (fun _ _ => rfl) (by omega) (by rw [hwd]; omega) hd (fun H1 locs1 hP hD hS => hK _ _ _ _ h (low_t (low_t (low_t (low_t (low_t hw))))) _ _ _ (hl.put hp2 hpn2 (fun q hq => cpy_ne hq) (cE_cpy c0.2.1) hP hS))
  · show (wr x3).toNat + (wr x0).toNat ≤ ln x4
    omega
  · show (wr x1).toNat + (wr x0).toNat ≤ ln x2
    omega
theorem ss_max {mi pc idx : Nat} (hd : decode (mB mi) pc = .ok (.invokestatic idx, 3)) (h1 : Cond.methodLink (mY mi).cls idx Lib.Math.max.name ∈ gwl) (h2 : Cond.static Lib.Math.max.name ∈ gwl) (h3 : Cond.initialized "java/lang/Math" ∈ gwl) (h4 : Cond.code Lib.Math.max.name Lib.Math.max.code 2 (some .int) ∈ gwl) (hf : 1 ≤ mFr mi) (hlm : 21 ≤ mLo mi) : SS mi pc s_max := by
  intro N p l e R s m args below meth c Q cells slots adr D cI cC cG A0 H0 σ0 C K r F hZ hC hK hR ls st σ lsA H locs h hw hl
  obtain ⟨hx, hb, hml, hown, hts, hKK, hfr, hlo, hce, hsl, hnw, hinj, hA0, hcl0, hN40⟩ := id F
  rcases st with _ | ⟨x0 | x0 | x0 | x0, _ | ⟨x1 | x1 | x1 | x1, st⟩⟩
  all_goals first | (cases h; done) | skip
  have h : (if st.length ≤ 4 then K (pc + 3) ls (vI (if wr x1 < wr x0 then x0 else x1) :: st) σ else none) = some r := h
  by_cases c0 : st.length ≤ 4
  case neg => rw [if_neg c0] at h; cases h
  rw [if_pos c0] at h
  have hc : ((st.map (cvD adr)).map fun v => v.category).sum ≤ 2 * st.length := stk_cat adr st
  have k0 := hK _ _ _ _ h (low_i (low_t (low_t hw))) _ _ _ hl
  refine va_mmax hx hb (hml.trans hl.1.1.symm) hown (hts _ h1) (hts _ h2) (hts _ h3) (hts _ h4) (by omega) (by omega) hce hsl hd ?_
  by_cases c1 : wr x1 < wr x0
  · rw [if_pos ((w_lt x1 x0).mpr c1)]
    rw [if_pos c1] at k0
    exact k0
  · rw [if_neg (fun z => c1 ((w_lt x1 x0).mp z))]
    rw [if_neg c1] at k0
    exact k0
theorem ss_min {mi pc idx : Nat} (hd : decode (mB mi) pc = .ok (.invokestatic idx, 3)) (h1 : Cond.methodLink (mY mi).cls idx Lib.Math.min.name ∈ gwl) (h2 : Cond.static Lib.Math.min.name ∈ gwl) (h3 : Cond.initialized "java/lang/Math" ∈ gwl) (h4 : Cond.code Lib.Math.min.name Lib.Math.min.code 2 (some .int) ∈ gwl) (hf : 1 ≤ mFr mi) (hlm : 21 ≤ mLo mi) : SS mi pc s_min := by
  intro N p l e R s m args below meth c Q cells slots adr D cI cC cG A0 H0 σ0 C K r F hZ hC hK hR ls st σ lsA H locs h hw hl
  obtain ⟨hx, hb, hml, hown, hts, hKK, hfr, hlo, hce, hsl, hnw, hinj, hA0, hcl0, hN40⟩ := id F
  rcases st with _ | ⟨x0 | x0 | x0 | x0, _ | ⟨x1 | x1 | x1 | x1, st⟩⟩
  all_goals first | (cases h; done) | skip
  have h : (if st.length ≤ 4 then K (pc + 3) ls (vI (if wr x0 < wr x1 then x0 else x1) :: st) σ else none) = some r := h
  by_cases c0 : st.length ≤ 4
  case neg => rw [if_neg c0] at h; cases h
  rw [if_pos c0] at h
  have hc : ((st.map (cvD adr)).map fun v => v.category).sum ≤ 2 * st.length := stk_cat adr st
  have k0 := hK _ _ _ _ h (low_i (low_t (low_t hw))) _ _ _ hl
  refine va_mmin hx hb (hml.trans hl.1.1.symm) hown (hts _ h1) (hts _ h2) (hts _ h3) (hts _ h4) (by omega) (by omega) hce hsl hd ?_
  by_cases c1 : wr x0 < wr x1
  · rw [if_pos ((w_lt x0 x1).mpr c1)]
    rw [if_pos c1] at k0
    exact k0
  · rw [if_neg (fun z => c1 ((w_lt x0 x1).mp z))]
    rw [if_neg c1] at k0
    exact k0
theorem ss_iret {mi pc : Nat} (hd : decode (mB mi) pc = .ok (.ireturn, 1)) (hr : mRet mi = some .int) (hk : mRk mi = 1) : SS mi pc s_iret := by
  intro N p l e R s m args below meth c Q cells slots adr D cI cC cG A0 H0 σ0 C K r F hZ hC hK hR ls st σ lsA H locs h hw hl
  obtain ⟨hx, hb, hml, hown, hts, hKK, hfr, hlo, hce, hsl, hnw, hinj, hA0, hcl0, hN40⟩ := id F
  rcases st with _ | ⟨x0 | x0 | x0 | x0, _ | ⟨x1, st⟩⟩
  all_goals first | (cases h; done) | skip
  have h : some (vI x0, σ) = some r := h
  cases h
  exact hR _ _ _ _ _ hl.2.2.1 hl.2.2.2.1 hl.2.2.2.2.1 (Or.inr (Or.inl ⟨x0, .int, hk, rfl, hr, rfl, hd, rfl⟩))
theorem ss_zret {mi pc : Nat} (hd : decode (mB mi) pc = .ok (.ireturn, 1)) (hr : mRet mi = some .boolean) (hk : mRk mi = 1) : SS mi pc s_zret := by
  intro N p l e R s m args below meth c Q cells slots adr D cI cC cG A0 H0 σ0 C K r F hZ hC hK hR ls st σ lsA H locs h hw hl
  obtain ⟨hx, hb, hml, hown, hts, hKK, hfr, hlo, hce, hsl, hnw, hinj, hA0, hcl0, hN40⟩ := id F
  rcases st with _ | ⟨x0 | x0 | x0 | x0, _ | ⟨x1, st⟩⟩
  all_goals first | (cases h; done) | skip
  have h : (if x0 = 0 ∨ x0 = 1 then some (vI x0, σ) else none) = some r := h
  by_cases c0 : x0 = 0 ∨ x0 = 1
  case neg => rw [if_neg c0] at h; cases h
  rw [if_pos c0] at h
  cases h
  exact hR _ _ _ _ _ hl.2.2.1 hl.2.2.2.1 hl.2.2.2.2.1 (Or.inr (Or.inl ⟨x0, .boolean, hk, rfl, hr, by rcases c0 with rfl | rfl <;> rfl, hd, rfl⟩))
theorem ss_cret {mi pc : Nat} (hd : decode (mB mi) pc = .ok (.ireturn, 1)) (hr : mRet mi = some .char) (hk : mRk mi = 1) : SS mi pc s_cret := by
  intro N p l e R s m args below meth c Q cells slots adr D cI cC cG A0 H0 σ0 C K r F hZ hC hK hR ls st σ lsA H locs h hw hl
  obtain ⟨hx, hb, hml, hown, hts, hKK, hfr, hlo, hce, hsl, hnw, hinj, hA0, hcl0, hN40⟩ := id F
  rcases st with _ | ⟨x0 | x0 | x0 | x0, _ | ⟨x1, st⟩⟩
  all_goals first | (cases h; done) | skip
  have h : (if 0 ≤ x0 ∧ x0 < 65536 then some (vI x0, σ) else none) = some r := h
  by_cases c0 : 0 ≤ x0 ∧ x0 < 65536
  case neg => rw [if_neg c0] at h; cases h
  rw [if_pos c0] at h
  cases h
  refine hR _ _ _ _ _ hl.2.2.1 hl.2.2.2.1 hl.2.2.2.2.1 (Or.inr (Or.inl ⟨x0, .char, hk, rfl, hr, ?_, hd, rfl⟩))
  have e : narrow .char (.int (Int32.ofInt x0)) = .int ((Int32.ofInt x0).toUInt32 % 65536).toInt32 := by
    have e1 := vp_nar_char (Int32.ofInt x0)
    unfold vp_nar at e1
    first | rfl | simp [narrow]
  rw [e, w_i2c, Int.emod_eq_of_lt c0.1 c0.2]
theorem ss_vret {mi pc : Nat} (hd : decode (mB mi) pc = .ok (.return_, 1)) (hr : mRet mi = none) (hk : mRk mi = 0) : SS mi pc s_vret := by
  intro N p l e R s m args below meth c Q cells slots adr D cI cC cG A0 H0 σ0 C K r F hZ hC hK hR ls st σ lsA H locs h hw hl
  obtain ⟨hx, hb, hml, hown, hts, hKK, hfr, hlo, hce, hsl, hnw, hinj, hA0, hcl0, hN40⟩ := id F
  rcases st with _ | ⟨x0, st⟩
  · have h : some (vI 0, σ) = some r := h
    cases h
    exact hR _ _ _ _ _ hl.2.2.1 hl.2.2.2.1 hl.2.2.2.2.1 (Or.inl ⟨hk, hr, hd, rfl⟩)
  · cases h
theorem ss_aret {mi pc : Nat} {Cn : String} (hd : decode (mB mi) pc = .ok (.areturn, 1)) (hr : mRet mi = some (.object Cn)) (hk : mRk mi = 2) : SS mi pc s_aret := by
  intro N p l e R s m args below meth c Q cells slots adr D cI cC cG A0 H0 σ0 C K r F hZ hC hK hR ls st σ lsA H locs h hw hl
  obtain ⟨hx, hb, hml, hown, hts, hKK, hfr, hlo, hce, hsl, hnw, hinj, hA0, hcl0, hN40⟩ := id F
  rcases st with _ | ⟨x0 | x0 | x0 | x0, _ | ⟨x1, st⟩⟩
  all_goals first | (cases h; done) | skip
  have h : some (vR x0, σ) = some r := h
  cases h
  exact hR _ _ _ _ _ hl.2.2.1 hl.2.2.2.1 hl.2.2.2.2.1 (Or.inr (Or.inr ⟨x0, Cn, hk, rfl, hr, hd, rfl⟩))
theorem sw_t (x : Int32) (lo : Int) : ∀ (offs : List Int) (i : Nat) (tb : List (Int × Nat)) (pc d : Nat) (K : Nat → Res) (r : AV × Sg), swk K d x.toInt tb = some r → tb = (offs.zipIdx i).map (fun q => (lo + q.2, ((pc : Int) + q.1).toNat)) → lo + i ≤ x.toInt → x.toInt < lo + i + offs.length → ∃ off, offs[(x.toInt - (lo + i)).toNat]? = some off ∧ K ((pc : Int) + off).toNat = some r
  | [], i, tb, pc, d, K, r => fun h e h1 h2 => by simp at h2; omega
  | o :: os, i, tb, pc, d, K, r => fun h e h1 h2 => by
    subst e
    have h : (if x.toInt = lo + (i : Int) then K ((pc : Int) + o).toNat else swk K d x.toInt ((os.zipIdx (i + 1)).map (fun q => (lo + q.2, ((pc : Int) + q.1).toNat)))) = some r := h
    by_cases c0 : x.toInt = lo + (i : Int)
    · rw [if_pos c0] at h
      exact ⟨o, by rw [c0]; simp, h⟩
    · rw [if_neg c0] at h
      obtain ⟨off, e1, e2⟩ := sw_t x lo os (i + 1) _ pc d K r h rfl (by omega) (by simp at h2; omega)
      refine ⟨off, ?_, e2⟩
      rw [show (x.toInt - (lo + (i : Int))).toNat = (x.toInt - (lo + ((i + 1 : Nat) : Int))).toNat + 1 by omega]
      exact e1
theorem sw_o (x : Int) : ∀ (tb : List (Int × Nat)) (d : Nat) (K : Nat → Res) (r : AV × Sg), swk K d x tb = some r → (∀ q ∈ tb, x ≠ q.1) → K d = some r
  | [], d, K, r => fun h _ => h
  | q :: tb, d, K, r => fun h hn => by
    have h : (if x = q.1 then K q.2 else swk K d x tb) = some r := h
    rw [if_neg (hn q List.mem_cons_self)] at h
    exact sw_o x tb d K r h (fun q' hq => hn q' (List.mem_cons_of_mem _ hq))
theorem ss_tsw {mi pc d len : Nat} {df lo hi : Int} {offs : Array Int} {tb : List (Int × Nat)} (hd : decode (mB mi) pc = .ok (.tableswitch df lo hi offs, len)) (ht : tb = (offs.toList.zipIdx 0).map (fun q => (lo + q.2, ((pc : Int) + q.1).toNat))) (hn : lo + (offs.toList.length : Int) = hi + 1) (hpos : ∀ o ∈ offs.toList, 0 ≤ (pc : Int) + o) (hdf : (pc : Int) + df = (d : Int)) : SS mi pc (s_switch tb d) := by
  intro N p l e R s m args below meth c Q cells slots adr D cI cC cG A0 H0 σ0 C K r F hZ hC hK hR ls st σ lsA H locs h hw hl
  obtain ⟨hx, hb, hml, hown, hts, hKK, hfr, hlo, hce, hsl, hnw, hinj, hA0, hcl0, hN40⟩ := id F
  rcases st with _ | ⟨x0 | x0 | x0 | x0, st⟩
  all_goals first | (cases h; done) | skip
  have h : swk (fun t => K t ls st σ) d (wr x0) tb = some r := h
  by_cases c0 : lo ≤ wr x0 ∧ wr x0 ≤ hi
  · obtain ⟨off, e1, e2⟩ := sw_t (Int32.ofInt x0) lo offs.toList 0 tb pc d _ r h ht (by have := c0.1; show lo + ((0 : Nat) : Int) ≤ wr x0; omega) (by have := c0.2; show wr x0 < lo + ((0 : Nat) : Int) + (offs.toList.length : Int); omega)
    have hm : off ∈ offs.toList := List.mem_of_getElem? e1
    refine lv_tableIn hx hb hd (Int.not_lt.mpr c0.1) (Int.not_lt.mpr c0.2) (off := off) (tgt := ((pc : Int) + off).toNat) ?_ (by have := hpos off hm; omega) (hK _ _ _ _ e2 (low_t hw) _ _ _ hl)
    rw [← Array.getElem?_toList]
    have e3 : (Int32.ofInt x0).toInt - (lo + ((0 : Nat) : Int)) = (Int32.ofInt x0).toInt - lo := by omega
    rw [e3] at e1
    exact e1
  · have h2 := sw_o (wr x0) tb d _ r h (fun q hq z => by
      subst ht
      obtain ⟨w, hw9, rfl⟩ := List.mem_map.mp hq
      obtain ⟨a, b⟩ := w
      have hw9 := List.mem_zipIdx hw9
      dsimp only at z
      simp at hn hw9
      omega)
    refine lv_tableOut hx hb hd ?_ hdf (hK _ _ _ _ h2 (low_t hw) _ _ _ hl)
    show wr x0 < lo ∨ hi < wr x0
    omega
theorem sw_l (x : Int) : ∀ (ps : List (Int × Int)) (tb : List (Int × Nat)) (pc d : Nat) (df : Int) (K : Nat → Res) (r : AV × Sg), swk K d x tb = some r → tb = ps.map (fun q => (q.1, ((pc : Int) + q.2).toNat)) → (∀ q ∈ ps, 0 ≤ (pc : Int) + q.2) → (pc : Int) + df = (d : Int) → ∃ t : Nat, (pc : Int) + Op.lookupswitch.offset ps df x = (t : Int) ∧ K t = some r
  | [], tb, pc, d, df, K, r => fun h e _ hdf => by
    subst e
    exact ⟨d, by unfold Op.lookupswitch.offset; exact hdf, h⟩
  | q :: ps, tb, pc, d, df, K, r => fun h e hp hdf => by
    subst e
    obtain ⟨a, b⟩ := q
    have h : (if x = a then K ((pc : Int) + b).toNat else swk K d x (ps.map (fun q => (q.1, ((pc : Int) + q.2).toNat)))) = some r := h
    by_cases c0 : x = a
    · rw [if_pos c0] at h
      have := hp _ List.mem_cons_self
      dsimp only at this
      exact ⟨_, by unfold Op.lookupswitch.offset; simp only [c0]; simp; omega, h⟩
    · rw [if_neg c0] at h
      obtain ⟨t, e1, e2⟩ := sw_l x ps _ pc d df K r h rfl (fun q hq => hp q (List.mem_cons_of_mem _ hq)) hdf
      refine ⟨t, ?_, e2⟩
      unfold Op.lookupswitch.offset
      have c1 : ¬ a = x := fun z => c0 z.symm
      simp [c0, c1]
      exact e1
theorem ss_lsw {mi pc d len : Nat} {df : Int} {ps : Array (Int × Int)} {tb : List (Int × Nat)} (hd : decode (mB mi) pc = .ok (.lookupswitch df ps, len)) (ht : tb = ps.toList.map (fun q => (q.1, ((pc : Int) + q.2).toNat))) (hpos : ∀ q ∈ ps.toList, 0 ≤ (pc : Int) + q.2) (hs : (ps.toList.zip (ps.toList.drop 1)).all (fun (a, next) => a.1 < next.1) = true) (hdf : (pc : Int) + df = (d : Int)) : SS mi pc (s_switch tb d) := by
  intro N p l e R s m args below meth c Q cells slots adr D cI cC cG A0 H0 σ0 C K r F hZ hC hK hR ls st σ lsA H locs h hw hl
  obtain ⟨hx, hb, hml, hown, hts, hKK, hfr, hlo, hce, hsl, hnw, hinj, hA0, hcl0, hN40⟩ := id F
  rcases st with _ | ⟨x0 | x0 | x0 | x0, st⟩
  all_goals first | (cases h; done) | skip
  have h : swk (fun t => K t ls st σ) d (wr x0) tb = some r := h
  obtain ⟨t, e1, e2⟩ := sw_l (wr x0) ps.toList tb pc d df _ r h ht hpos hdf
  exact lv_lookup hx hb hd hs rfl e1 (hK _ _ _ _ e2 (low_t hw) _ _ _ hl)
