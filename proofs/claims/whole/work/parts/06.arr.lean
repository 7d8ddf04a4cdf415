/-! arrays, and what is made -/
section XR
variable {K : XK} {y : YT} {pc : Nat} {L : XL} {S : List Value} {M N : XM} {o : XO}
theorem x_iaload {a : Nat} {j : Int32} (hd : decode (yb y) pc = .ok (.iaload, 1)) (ha : a < xz M) (ht : (xt M a).1 = 0 ∨ (xt M a).1 = 5) (hj : vp_in j (xt M a).2) (k : cA K y (pc + 1) L (.int (xi M a j.toNatClampNeg) :: S) M o N) : cA K y pc L (.int j :: .ref a :: S) M o N := by
  intro p e R s m args below meth c H locs cells slots ls z0 u0 C hH hz hu hl
  have hW := C.2.2.2.2.2.2.2.2.1
  obtain ⟨cell, a1, a2, a3, a4, a5⟩ := (hH.2.2.1 a ha).1 .int (by rcases ht with h | h <;> rw [h] <;> rfl)
  have hlt : j.toNatClampNeg < (xt M a).2 := Nat.not_le.mp fun q => hj (Or.inr q)
  refine W.iald C.1 C.2.1 a1 (State.isArrayOf_alike hW.alike a2.1) a3 (by rw [a4]; exact hj) (v := .int (xi M a j.toNatClampNeg)) ?_ rfl rfl hd (k p e R s m args below meth c H locs cells slots ls z0 u0 C hH hz hu hl)
  rw [a5 _ hlt]
  unfold xval
  rcases ht with h | h <;> rw [h] <;> rfl
theorem x_baload {a : Nat} {j : Int32} (hd : decode (yb y) pc = .ok (.baload, 1)) (ha : a < xz M) (ht : (xt M a).1 = 1) (hj : vp_in j (xt M a).2) (k : cA K y (pc + 1) L (.int (xi M a j.toNatClampNeg) :: S) M o N) : cA K y pc L (.int j :: .ref a :: S) M o N := by
  intro p e R s m args below meth c H locs cells slots ls z0 u0 C hH hz hu hl
  have hW := C.2.2.2.2.2.2.2.2.1
  obtain ⟨cell, a1, a2, a3, a4, a5⟩ := (hH.2.2.1 a ha).1 .boolean (by rw [ht]; rfl)
  have hlt : j.toNatClampNeg < (xt M a).2 := Nat.not_le.mp fun q => hj (Or.inr q)
  refine W.zald C.1 C.2.1 a1 (State.isArrayOf_alike hW.alike a2.1) a3 (by rw [a4]; exact hj) (v := .int (xi M a j.toNatClampNeg)) ?_ rfl rfl hd (k p e R s m args below meth c H locs cells slots ls z0 u0 C hH hz hu hl)
  rw [a5 _ hlt]
  unfold xval
  rw [ht]; rfl
theorem x_laload {a : Nat} {j : Int32} (hd : decode (yb y) pc = .ok (.laload, 1)) (ha : a < xz M) (ht : (xt M a).1 = 2) (hj : vp_in j (xt M a).2) (k : cA K y (pc + 1) L (.long (xj M a j.toNatClampNeg) :: S) M o N) : cA K y pc L (.int j :: .ref a :: S) M o N := by
  intro p e R s m args below meth c H locs cells slots ls z0 u0 C hH hz hu hl
  have hW := C.2.2.2.2.2.2.2.2.1
  obtain ⟨cell, a1, a2, a3, a4, a5⟩ := (hH.2.2.1 a ha).1 .long (by rw [ht]; rfl)
  have hlt : j.toNatClampNeg < (xt M a).2 := Nat.not_le.mp fun q => hj (Or.inr q)
  refine W.lald C.1 C.2.1 a1 (State.isArrayOf_alike hW.alike a2.1) a3 (by rw [a4]; exact hj) (v := .long (xj M a j.toNatClampNeg)) ?_ rfl rfl hd (k p e R s m args below meth c H locs cells slots ls z0 u0 C hH hz hu hl)
  rw [a5 _ hlt]
  unfold xval
  rw [ht]; rfl
theorem x_aaload {a b : Nat} {j : Int32} {ty : FieldType} (hd : decode (yb y) pc = .ok (.aaload, 1)) (ha : a < xz M) (ht : 10 ≤ (xt M a).1) (hy : xar (xt M a).1 = some ty) (href : ty.isReference = true) (hj : vp_in j (xt M a).2) (hb : xr M a j.toNatClampNeg = some b) (k : cA K y (pc + 1) L (.ref b :: S) M o N) : cA K y pc L (.int j :: .ref a :: S) M o N := by
  intro p e R s m args below meth c H locs cells slots ls z0 u0 C hH hz hu hl
  have hW := C.2.2.2.2.2.2.2.2.1
  obtain ⟨cell, a1, a2, a3, a4, a5⟩ := (hH.2.2.1 a ha).1 ty hy
  have hlt : j.toNatClampNeg < (xt M a).2 := Nat.not_le.mp fun q => hj (Or.inr q)
  refine W.aald C.1 C.2.1 a1 (State.isArrayOf_alike hW.alike a2.1) href a3 (by rw [a4]; exact hj) (v := .ref (xa K b)) ?_ rfl rfl hd (k p e R s m args below meth c H locs cells slots ls z0 u0 C hH hz hu hl)
  rw [a5 _ hlt]
  unfold xval
  rw [if_neg (by omega), hb]; rfl
theorem x_arraylength {a : Nat} {ty : FieldType} {n : Int32} (hd : decode (yb y) pc = .ok (.arraylength, 1)) (ha : a < xz M) (hy : xar (xt M a).1 = some ty) (hn : (xt M a).2.toInt32 = n) (k : cA K y (pc + 1) L (.int n :: S) M o N) : cA K y pc L (.ref a :: S) M o N := by
  intro p e R s m args below meth c H locs cells slots ls z0 u0 C hH hz hu hl
  have hW := C.2.2.2.2.2.2.2.2.1
  obtain ⟨cell, a1, a2, a3, a4, a5⟩ := (hH.2.2.1 a ha).1 ty hy
  exact W.alen C.1 C.2.1 a1 (State.isArrayOf_alike hW.alike a2.1) (by rw [a4]; exact hn) rfl rfl hd (k p e R s m args below meth c H locs cells slots ls z0 u0 C hH hz hu hl)
/-- the invocation, with one place more that was written -/
theorem cC_loc {p : Program} {e : Env} {R : Room} {s : State} {m : MethodId} {meth : Method} {c : Code} {locs : List Loc} {z0 u0 a i : Nat} (C : cC K y p e R s m meth c locs z0 u0) (ha : a ≠ 0) : cC K y p e R s m meth c (locs ++ [⟨xa K a, i⟩]) z0 u0 := by
  refine ⟨C.1, C.2.1, C.2.2.1, C.2.2.2.1, C.2.2.2.2.1, C.2.2.2.2.2.1, C.2.2.2.2.2.2.1, C.2.2.2.2.2.2.2.1, C.2.2.2.2.2.2.2.2.1, C.2.2.2.2.2.2.2.2.2.1, C.2.2.2.2.2.2.2.2.2.2.1, C.2.2.2.2.2.2.2.2.2.2.2.1, C.2.2.2.2.2.2.2.2.2.2.2.2.1, C.2.2.2.2.2.2.2.2.2.2.2.2.2.1, C.2.2.2.2.2.2.2.2.2.2.2.2.2.2.1, fun q' hq' => ?_⟩
  rcases List.mem_append.mp hq' with h | h
  · exact C.2.2.2.2.2.2.2.2.2.2.2.2.2.2.2 q' h
  · rw [List.mem_singleton.mp h]
    show xB K < xa K a
    rw [xa_pos ha]; omega
/-- an array's place is written -/
theorem xH_ast (G : xG K) {M1 : XM} {H J : Heap} {a i : Nat} {ty : FieldType} {cell : Cell} {v : Value} (hH : xH K M H) (ha : a < xz M) (hne : (xt M a).1 ≠ 5) (hsm : (xt M a).1 < 20) (hty : xar (xt M a).1 = some ty) (a1 : H[xa K a]? = some cell) (a2 : xisA (xs K) cell ty) (a3 : cell.vm ≠ .unknown) (a4 : cell.slots.size = (xt M a).2) (a5 : ∀ i, i < (xt M a).2 → cell.slots[i]? = some (xval K M a i))
    (hi : i < (xt M a).2) (g1 : xz M1 = xz M) (g2 : xt M1 = xt M) (g3 : ∀ b, b ≠ a → (∀ i, xi M1 b i = xi M b i) ∧ (∀ i, xr M1 b i = xr M b i) ∧ ∀ i, xj M1 b i = xj M b i) (g4 : ∀ j, j ≠ i → xval K M1 a j = xval K M a j) (g5 : xval K M1 a i = v)
    (e1 : J[xa K a]? = some (cell.setSlot i v)) (e2 : J.size = H.size) (e3 : ∀ q, q ≠ xa K a → J[q]? = H[q]?) : a ≠ 0 ∧ xH K M1 J := by
  have ha0 : a ≠ 0 := fun e0 => by
    have h5 := hH.2.2.2
    rw [e0] at hne
    exact hne h5
  refine ⟨ha0, xH_put G hH ha0 g1 g2 g3 e2 e3 ⟨fun ty' h => ?_, fun c' q' h h' => ?_, fun c' nm h h' => ?_⟩⟩
  · rw [g2] at h
    cases hty.symm.trans h
    refine ⟨cell.setSlot i v, e1, a2, a3, by rw [k2_slotsz, g2]; exact a4, fun j hj => ?_⟩
    rw [g2] at hj
    by_cases ej : j = i
    · subst ej
      rw [g5]
      simp [Cell.setSlot, Array.getElem?_setIfInBounds, a4, hi]
    · rw [g4 j ej, ← a5 j hj]
      simp [Cell.setSlot, Array.getElem?_setIfInBounds, Ne.symm ej]
  · rw [g2] at h; omega
  · rw [g2] at h; omega
theorem x_iastore (G : xG K) {a : Nat} {j x : Int32} (hd : decode (yb y) pc = .ok (.iastore, 1)) (ha : a < xz M) (ht : (xt M a).1 = 0) (hj : vp_in j (xt M a).2) (k : cA K y (pc + 1) L S (xpi M a j.toNatClampNeg x) o N) : cA K y pc L (.int x :: .int j :: .ref a :: S) M o N := by
  intro p e R s m args below meth c H locs cells slots ls z0 u0 C hH hz hu hl
  have hW := C.2.2.2.2.2.2.2.2.1
  have hty : xar (xt M a).1 = some .int := by rw [ht]; rfl
  obtain ⟨cell, a1, a2, a3, a4, a5⟩ := (hH.2.2.1 a ha).1 .int hty
  have hlt : j.toNatClampNeg < (xt M a).2 := Nat.not_le.mp fun q => hj (Or.inr q)
  refine W.iast C.1 C.2.1 a1 (State.isArrayOf_alike hW.alike a2.1) a3 (by rw [a4]; exact hj) rfl rfl hd fun J e1 e2 e3 => ?_
  obtain ⟨ha0, hJ⟩ := xH_ast (M1 := xpi M a j.toNatClampNeg x) G hH ha (by omega) (by omega) hty a1 a2 a3 a4 a5 hlt rfl rfl (fun b hb => ⟨fun i => by simp [xpi, xi, hb], fun i => rfl, fun i => rfl⟩)
    (fun i hi => xval_congr rfl (by simp [xpi, xi, hi]) rfl rfl) (by unfold xval; rw [show xt (xpi M a j.toNatClampNeg x) = xt M from rfl, ht]; simp [xpi, xi]) e1 e2 e3
  exact k p e R s m args below meth c J _ cells slots ls z0 u0 (cC_loc C ha0) hJ hz hu hl
theorem x_bastore (G : xG K) {a : Nat} {j x : Int32} (hd : decode (yb y) pc = .ok (.bastore, 1)) (ha : a < xz M) (ht : (xt M a).1 = 1) (hj : vp_in j (xt M a).2) (hx : x = 0 ∨ x = 1) (k : cA K y (pc + 1) L S (xpi M a j.toNatClampNeg x) o N) : cA K y pc L (.int x :: .int j :: .ref a :: S) M o N := by
  intro p e R s m args below meth c H locs cells slots ls z0 u0 C hH hz hu hl
  have hW := C.2.2.2.2.2.2.2.2.1
  have hty : xar (xt M a).1 = some .boolean := by rw [ht]; rfl
  have hn : narrow .boolean (.int x) = .int x := (xnz hx).1
  obtain ⟨cell, a1, a2, a3, a4, a5⟩ := (hH.2.2.1 a ha).1 .boolean hty
  have hlt : j.toNatClampNeg < (xt M a).2 := Nat.not_le.mp fun q => hj (Or.inr q)
  refine W.zast C.1 C.2.1 a1 (State.isArrayOf_alike hW.alike a2.1) a3 (by rw [a4]; exact hj) rfl rfl hd fun J e1 e2 e3 => ?_
  rw [hn] at e1
  obtain ⟨ha0, hJ⟩ := xH_ast (M1 := xpi M a j.toNatClampNeg x) G hH ha (by omega) (by omega) hty a1 a2 a3 a4 a5 hlt rfl rfl (fun b hb => ⟨fun i => by simp [xpi, xi, hb], fun i => rfl, fun i => rfl⟩)
    (fun i hi => xval_congr rfl (by simp [xpi, xi, hi]) rfl rfl) (by unfold xval; rw [show xt (xpi M a j.toNatClampNeg x) = xt M from rfl, ht]; simp [xpi, xi]) e1 e2 e3
  exact k p e R s m args below meth c J _ cells slots ls z0 u0 (cC_loc C ha0) hJ hz hu hl
theorem x_lastore (G : xG K) {a : Nat} {j : Int32} {x : Int64} (hd : decode (yb y) pc = .ok (.lastore, 1)) (ha : a < xz M) (ht : (xt M a).1 = 2) (hj : vp_in j (xt M a).2) (k : cA K y (pc + 1) L S (xpj M a j.toNatClampNeg x) o N) : cA K y pc L (.long x :: .int j :: .ref a :: S) M o N := by
  intro p e R s m args below meth c H locs cells slots ls z0 u0 C hH hz hu hl
  have hW := C.2.2.2.2.2.2.2.2.1
  have hty : xar (xt M a).1 = some .long := by rw [ht]; rfl
  obtain ⟨cell, a1, a2, a3, a4, a5⟩ := (hH.2.2.1 a ha).1 .long hty
  have hlt : j.toNatClampNeg < (xt M a).2 := Nat.not_le.mp fun q => hj (Or.inr q)
  refine W.last C.1 C.2.1 a1 (State.isArrayOf_alike hW.alike a2.1) a3 (by rw [a4]; exact hj) rfl rfl hd fun J e1 e2 e3 => ?_
  obtain ⟨ha0, hJ⟩ := xH_ast (M1 := xpj M a j.toNatClampNeg x) G hH ha (by omega) (by omega) hty a1 a2 a3 a4 a5 hlt rfl rfl (fun b hb => ⟨fun i => rfl, fun i => rfl, fun i => by simp [xpj, xj, hb]⟩)
    (fun i hi => xval_congr rfl rfl rfl (by simp [xpj, xj, hi])) (by unfold xval; rw [show xt (xpj M a j.toNatClampNeg x) = xt M from rfl, ht]; simp [xpj, xj]) e1 e2 e3
  exact k p e R s m args below meth c J _ cells slots ls z0 u0 (cC_loc C ha0) hJ hz hu hl
/-- a reference into an array: the object is of the array's own class -/
theorem x_aastore (G : xG K) {a b ci : Nat} {j : Int32} {q : String × List XF} (hd : decode (yb y) pc = .ok (.aastore, 1)) (ha : a < xz M) (ht : 10 ≤ (xt M a).1) (hsm : (xt M a).1 < 20) (hq : xcl[ci]? = some q) (hty : xar (xt M a).1 = some (.object q.1)) (hj : vp_in j (xt M a).2) (hb : b < xz M) (htb : (xt M b).1 = 20 + ci)
    (k : cA K y (pc + 1) L S (xpr M a j.toNatClampNeg b) o N) : cA K y pc L (.ref b :: .int j :: .ref a :: S) M o N := by
  intro p e R s m args below meth c H locs cells slots ls z0 u0 C hH hz hu hl
  have hW := C.2.2.2.2.2.2.2.2.1
  obtain ⟨cell, a1, a2, a3, a4, a5⟩ := (hH.2.2.1 a ha).1 _ hty
  obtain ⟨cv, c1, c2, c3, -⟩ := (hH.2.2.1 b hb).2.1 ci q htb hq
  have hlt : j.toNatClampNeg < (xt M a).2 := Nat.not_le.mp fun q => hj (Or.inr q)
  obtain ⟨k0, comp, hk0, hkind0, hfc⟩ := a2.2 _ rfl
  obtain ⟨k1, hk1, he⟩ := hW.alike.2.2 _ _ hk0
  have hkind1 : k1.kind = .array comp (.object q.1) := by rw [he]; exact hkind0
  have hfc' : s.vm.findClass q.1 = some comp := by rw [hW.alike.findClass]; exact hfc
  obtain ⟨kc, hkc⟩ := Vm.classAt_of_findClass hfc'
  have hcls : cv.cls = comp := Option.some.inj (c2.symm.trans hfc)
  refine W.aast C.1 C.2.1 a1 a2.1.1 a3 hk1 hkind1 rfl hkc ⟨fun h => hj (Or.inl h), by rw [a4]; exact hlt⟩ c1 (fun z h => by rw [c3] at h; cases h) (by rw [hcls]; exact hkc) (by rw [hcls]; exact va_asg _ _) rfl rfl hd fun J e1 e2 e3 => ?_
  obtain ⟨ha0, hJ⟩ := xH_ast (M1 := xpr M a j.toNatClampNeg b) G hH ha (by omega) hsm hty a1 a2 a3 a4 a5 hlt rfl rfl (fun b hb => ⟨fun i => rfl, fun i => by simp [xpr, xr, hb], fun i => rfl⟩)
    (fun i hi => xval_congr rfl rfl (by simp [xpr, xr, hi]) rfl) (by unfold xval; rw [show xt (xpr M a j.toNatClampNeg b) = xt M from rfl, if_neg (by omega)]; simp [xpr, xr, xrf]) e1 e2 e3
  exact k p e R s m args below meth c J _ cells slots ls z0 u0 (cC_loc C ha0) hJ hz hu hl
/-- an object is made -/
theorem x_new (G : xG K) {ci index : Nat} {q : String × List XF} (hd : decode (yb y) pc = .ok (.new index, 3)) (hq : xcl[ci]? = some q) (hk : Cond.classLink (ym y).cls index q.1 ∈ lw_tbl) (hini : Cond.initialized q.1 ∈ lw_tbl) (hz1 : xz M < ZM) (hu1 : xu M + q.2.length ≤ UM)
    (k : cA K y (pc + 3) L (.ref (xz M) :: S) (xnw M (20 + ci) 0 q.2.length) o N) : cA K y pc L S M o N := by
  intro p e R s m args below meth c H locs cells slots ls z0 u0 C hH hz hu hl
  have hW := C.2.2.2.2.2.2.2.2.1
  have hqm := List.mem_of_getElem? hq
  have hzR := C.2.2.2.2.2.2.2.2.2.2.2.1
  have huR := C.2.2.2.2.2.2.2.2.2.2.2.2.1
  have hz0 := C.2.2.2.2.2.2.2.2.2.2.2.2.2.2.1
  have hne : xz M ≠ 0 := by omega
  have hins := xw G rfl (xcl_i q hqm) hW args
  obtain ⟨cC, kC', hfc, hkC', hkind, -⟩ := Cond.instantiable_spec hins
  refine W.newcK C.1 C.2.1 C.2.2.2.2.2.2.2.1 (xw G rfl hk hW args) hins (xw G rfl hini hW args) rfl hd (by omega) (by omega) hfc (h := xa K (xz M)) (by rw [hH.1, xa_pos hne]) fun J kC hkC e1 e2 e3 => ?_
  refine k p e R s m args below meth c J locs (cells + 1) (slots + q.2.length) ls z0 u0 C ?_ (by show cells + 1 + z0 = xz M + 1 ∧ xz M + 1 ≤ ZM; omega) (by show slots + q.2.length + u0 = xu M + q.2.length ∧ xu M + q.2.length ≤ UM; omega) hl
  have hsz : H.size = xa K (xz M) := by rw [hH.1, xa_pos hne]
  refine xH_new G hH hne (by rw [e2, hsz]) (fun z hz' => e3 z (by rw [← hsz]; exact hz')) ⟨fun ty h => ?_, fun c' q' h h' => ?_, fun c' nm h h' => ?_⟩
  · have h0 : xar (20 + ci) = some ty := by simpa [xnw, xt] using h
    unfold xar at h0
    split at h0 <;> first | omega | cases h0
  · have h0 : 20 + ci = 20 + c' := by simpa [xnw, xt] using h
    have h1 : c' = ci := by omega
    subst h1
    cases hq.symm.trans h'
    have hal := hW.alike
    refine ⟨blank cC kC, e1, by show _ = some cC; rw [← hal.findClass]; exact hfc, rfl, fun j f hf => ?_⟩
    have hfm := List.mem_of_getElem? hf
    have hl0 := xcl_lay' G hqm hfm hW args
    obtain ⟨i, cf, kf, fi, fd, hi, hsl⟩ := u_found hl0
    have h3 := (u_facts hfc hkC hl0 hi).2.2
    rw [(State.fieldFound?_type hi (xcl_t q hqm f hfm).1).2] at h3
    refine ⟨i, slotIs_moved hal.symm ⟨cf, kf, fi, fd, hi, hsl⟩, ?_⟩
    rw [← hsl, k2_blank h3, (xcl_t q hqm f hfm).2]
    simp [xfv, xnw, xr, xi, xrf]
  · have h0 : 20 + ci = 40 + c' := by simpa [xnw, xt] using h
    have h7 := (List.getElem?_eq_some_iff.mp hq).1
    simp [xcl] at h7
    omega
/-- an array of ints, booleans or longs is made -/
theorem x_newarray (G : xG K) {at0 : ArrayType} {kd n : Nat} {v : Int32} {ty : FieldType} (hd : decode (yb y) pc = .ok (.newarray at0, 2)) (hty : newarray.typeOf at0 = ty) (hw : Cond.arrayClass ty ∈ lw_tbl) (har : xar kd = some ty) (hkd : kd < 3) (hn : ¬ v < 0) (hv : v.toNatClampNeg = n) (hb : n * componentBytes ty ≤ 536870912) (hz1 : xz M < ZM) (hu1 : xu M + n ≤ UM)
    (k : cA K y (pc + 2) L (.ref (xz M) :: S) (xnw M kd n n) o N) : cA K y pc L (.int v :: S) M o N := by
  subst hty
  intro p e R s m args below meth c H locs cells slots ls z0 u0 C hH hz hu hl
  have hW := C.2.2.2.2.2.2.2.2.1
  have hzR := C.2.2.2.2.2.2.2.2.2.2.2.1
  have huR := C.2.2.2.2.2.2.2.2.2.2.2.2.1
  have hz0 := C.2.2.2.2.2.2.2.2.2.2.2.2.2.2.1
  have hne : xz M ≠ 0 := by omega
  have hsz : H.size = xa K (xz M) := by rw [hH.1, xa_pos hne]
  refine W.newaK C.1 C.2.1 (xwA G hw hW args) rfl hd rfl hn hv hb (by omega) (by omega) (h := xa K (xz M)) hsz fun J cA e1 e2 e3 hA => ?_
  refine k p e R s m args below meth c J locs (cells + 1) (slots + n) ls z0 u0 C ?_ (by show cells + 1 + z0 = xz M + 1 ∧ xz M + 1 ≤ ZM; omega) (by show slots + n + u0 = xu M + n ∧ xu M + n ≤ UM; omega) hl
  refine xH_new G hH hne (by rw [e2, hsz]) (fun z hz' => e3 z (by rw [← hsz]; exact hz')) ⟨fun ty h => ?_, fun c' q' h h' => ?_, fun c' nm h h' => ?_⟩
  · have h0 : xar kd = some ty := by simpa [xnw, xt] using h
    cases har.symm.trans h0
    have h2 : (xt (xnw M kd n n) (xz M)).2 = n := by simp [xnw, xt]
    have h1 : (xt (xnw M kd n n) (xz M)).1 = kd := by simp [xnw, xt]
    refine ⟨_, e1, ⟨State.isArrayOf_alike hW.alike.symm (hA _ _), fun nm hnm => ?_⟩, fun h => (by cases h), by rw [h2]; simp [arrV], fun i hi => ?_⟩
    · rw [hnm] at har
      unfold xar at har
      split at har <;> first | omega | cases har
    · rw [h2] at hi
      have h3 : defaultValue (newarray.typeOf at0) = xval K (xnw M kd n n) (xz M) i := by
        unfold xval
        rw [h1, if_pos (by omega)]
        have : kd = 0 ∨ kd = 1 ∨ kd = 2 := by omega
        rcases this with rfl | rfl | rfl
        · have e5 : newarray.typeOf at0 = .int := (Option.some.inj har).symm
          rw [e5]; simp [xnw, xi, defaultValue]
        · have e5 : newarray.typeOf at0 = .boolean := (Option.some.inj har).symm
          rw [e5]; simp [xnw, xi, defaultValue]
        · have e5 : newarray.typeOf at0 = .long := (Option.some.inj har).symm
          rw [e5]; simp [xnw, xj, defaultValue]
      rw [← h3]
      simp [arrV, hi]
  · have h0 : kd = 20 + c' := by simpa [xnw, xt] using h
    omega
  · have h0 : kd = 40 + c' := by simpa [xnw, xt] using h
    omega
/-- an array of objects is made -/
theorem x_anewarray (G : xG K) {index kd n : Nat} {v : Int32} {nm : String} (hd : decode (yb y) pc = .ok (.anewarray index, 3)) (hk : Cond.classLink (ym y).cls index nm ∈ lw_tbl) (hov : Cond.arrayOver (.object nm) ∈ lw_tbl) (har : xar kd = some (.object nm)) (hk1 : 10 ≤ kd) (hk2 : kd < 20) (hn : ¬ v < 0) (hv : v.toNatClampNeg = n) (hb : n * 4 ≤ 536870912) (hz1 : xz M < ZM) (hu1 : xu M + n ≤ UM)
    (k : cA K y (pc + 3) L (.ref (xz M) :: S) (xnw M kd n n) o N) : cA K y pc L (.int v :: S) M o N := by
  subst hv
  intro p e R s m args below meth c H locs cells slots ls z0 u0 C hH hz hu hl
  have hW := C.2.2.2.2.2.2.2.2.1
  have hzR := C.2.2.2.2.2.2.2.2.2.2.2.1
  have huR := C.2.2.2.2.2.2.2.2.2.2.2.2.1
  have hz0 := C.2.2.2.2.2.2.2.2.2.2.2.2.2.2.1
  have hne : xz M ≠ 0 := by omega
  have hsz : H.size = xa K (xz M) := by rw [hH.1, xa_pos hne]
  refine W.anew C.1 C.2.1 C.2.2.2.2.2.2.2.1 (xw G rfl hk hW args) (va_AO.use (va_AO.moved hW.alike (va_AO.of (G.2.2.1 _ hov)))) rfl hd rfl hn hb (by omega) (by omega) fun cA kA comp f1 f2 f3 f4 => ?_
  rw [hsz]
  refine k p e R s m args below meth c _ locs (cells + 1) (slots + v.toNatClampNeg) ls z0 u0 C ?_ (by show cells + 1 + z0 = xz M + 1 ∧ xz M + 1 ≤ ZM; omega) (by show slots + v.toNatClampNeg + u0 = xu M + v.toNatClampNeg ∧ xu M + v.toNatClampNeg ≤ UM; omega) hl
  refine xH_new G hH hne (by simp) (fun z hz' => by rw [Array.getElem?_push, if_neg (Nat.ne_of_lt hz')]) ⟨fun ty h => ?_, fun c' q' h h' => ?_, fun c' nm h h' => ?_⟩
  · have h0 : xar kd = some ty := by simpa [xnw, xt] using h
    cases har.symm.trans h0
    have h2 : (xt (xnw M kd v.toNatClampNeg v.toNatClampNeg) (xz M)).2 = v.toNatClampNeg := by simp [xnw, xt]
    have h1 : (xt (xnw M kd v.toNatClampNeg v.toNatClampNeg) (xz M)).1 = kd := by simp [xnw, xt]
    have hal := hW.alike.symm
    obtain ⟨k2, hk2', he⟩ := hal.2.2 _ _ f2
    have hkd2 : k2.kind = .array comp (.object nm) := by rw [he]; exact f3
    refine ⟨{ cls := cA, slots := Array.replicate v.toNatClampNeg .null, vm := .none }, by rw [← hsz]; simp, ⟨⟨fun z h => (by cases h), k2, hk2', comp, hkd2⟩, fun nm' hnm => ?_⟩, fun h => (by cases h), by rw [h2]; simp, fun i hi => ?_⟩
    · cases hnm
      exact ⟨k2, comp, hk2', hkd2, by rw [← hW.alike.findClass]; exact f4⟩
    · rw [h2] at hi
      unfold xval
      rw [h1, if_neg (by omega)]
      simp [xnw, xr, xrf, hi]
  · have h0 : kd = 20 + c' := by simpa [xnw, xt] using h
    omega
  · have h0 : kd = 40 + c' := by simpa [xnw, xt] using h
    omega
/-- Object's constructor -/
theorem x_objInit (G : xG K) {a index : Nat} (hd : decode (yb y) pc = .ok (.invokespecial index, 3)) (hk : Cond.methodLink (ym y).cls index Lib.objectInit ∈ lw_tbl) (hi : Cond.instanceMethod Lib.objectInit ∈ lw_tbl) (hc : Cond.code Lib.objectInit ⟨#[0xb1]⟩ 1 none ∈ lw_tbl) (hfr : 1 ≤ yf y) (hlo : (S.map fun v => v.category).sum + 12 ≤ yl y)
    (k : cA K y (pc + 3) L S M o N) : cA K y pc L (.ref a :: S) M o N := by
  intro p e R s m args below meth c H locs cells slots ls z0 u0 C hH hz hu hl
  have hW := C.2.2.2.2.2.2.2.2.1
  have hcat : ((S.map (xv K)).map fun v => v.category).sum = (S.map fun v => v.category).sum := by
    congr 1
    simp [xv_cat]
  refine W.objInit C.1 C.2.1 C.2.2.2.2.2.2.2.1 (xw G rfl hk hW args) (xw G rfl hi hW args) (xw G rfl hc hW args) rfl (hl.1.1.trans C.2.2.1.symm) rfl hd (Nat.le_trans hfr C.2.2.2.2.2.2.2.2.2.1) ?_ (k p e R s m args below meth c H locs cells slots ls z0 u0 C hH hz hu hl)
  have h1 := C.2.2.2.2.2.2.2.2.2.2.1
  rw [hcat]
  show 2 * 0 + _ + 12 ≤ R.locals
  omega
end XR
