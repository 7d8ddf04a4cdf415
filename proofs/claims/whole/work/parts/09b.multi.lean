/-! arrays of arrays -/
def xfl (M : XM) (a m : Nat) : Nat → XM
  | 0 => M
  | i + 1 => xpr (xnw (xfl M a m i) 0 m m) a i (xz (xfl M a m i))
def mA (M : XM) (x z : Int32) (f : Nat → XM → XP) : XP :=
  if (¬ x < 0 ∧ ¬ z < 0 ∧ x.toNatClampNeg ≤ 1000 ∧ z.toNatClampNeg ≤ 1000) ∧ xz M + (1 + x.toNatClampNeg) ≤ ZM ∧ xu M + (x.toNatClampNeg + x.toNatClampNeg * z.toNatClampNeg) ≤ UM then
    f (xz M) (xfl (xnw M 13 x.toNatClampNeg x.toNatClampNeg) (xz M) z.toNatClampNeg x.toNatClampNeg) else none
/-- what 'newArray' does, room and limits being there -/
theorem xm_newArray {E : CtlPost} {e : Env} {d : Bool} {acts : List Action} {s : State} {c comp : ClassId} {k : Class} {ty : FieldType} {n : Nat} {v : Value} {Q : Addr → Pre} (hk : s.vm.classes[c]? = some k) (hkind : k.kind = .array comp ty) (hn : n ≤ 1000) (hl : e.platform.arrayLengthLimit = 2147483645) (hb : e.platform.maxHeapBytes = 536870912) (hcb : componentBytes ty ≤ 8) (hfit : fits ty v = true) (hdef : v.isDefault = true)
    (h1 : s.heap.size < e.platform.maxCells) (h2 : s.slotsUsed + n ≤ e.platform.maxSlots) (hq : Q s.heap.size d acts (s.pushCell { cls := c, slots := Array.replicate n v, vm := .none })) : wp (Jvm.newArray c n v) Q E e d acts s := by
  have hmul : n * componentBytes ty ≤ 1000 * 8 := Nat.mul_le_mul hn hcb
  have e1 : ¬ n > e.platform.arrayLengthLimit := by omega
  have e2 : ¬ n * componentBytes ty > e.platform.maxHeapBytes := by omega
  have e3 : allocActs (Array.replicate n v) s.heap.size acts = acts := by
    unfold allocActs
    rw [if_pos]
    rw [Array.all_replicate]
    split <;> simp [hdef]
  simp only [Jvm.newArray, Jvm.arrayFits, wp_bind', W.ask, W.ite, e1, if_false, wp_pure', W.theClass, hk, hkind, e2, W.alloc, W.stop, Option.some.injEq, exists_eq_left', Array.size_replicate, e3]
  rw [if_neg (by omega)]
  refine ⟨h1, h2, fun i w hw => ?_, hq⟩
  simp only [Array.getElem?_replicate] at hw
  split at hw
  · cases hw
    simp [State.fitsSlot, State.slotType?, hk, hkind, hfit]
  · cases hw
section XR
variable {K : XK} {y : YT} {pc : Nat} {L : XL} {S : List Value} {M N : XM} {o : XO}
theorem xfl_z (M : XM) (a m : Nat) : ∀ i, xz (xfl M a m i) = xz M + i ∧ xu (xfl M a m i) = xu M + i * m
  | 0 => ⟨rfl, by simp [xfl]⟩
  | i + 1 => by
    obtain ⟨h1, h2⟩ := xfl_z M a m i
    refine ⟨?_, ?_⟩
    · show xz (xfl M a m i) + 1 = _
      omega
    · show xu (xfl M a m i) + m = _
      rw [h2, Nat.succ_mul]; omega
theorem xfl_t (M : XM) (a m : Nat) (ha : a < xz M) : ∀ i, xt (xfl M a m i) a = xt M a
  | 0 => rfl
  | i + 1 => by
    show (if a = xz (xfl M a m i) then (0, m) else xt (xfl M a m i) a) = _
    rw [if_neg (by rw [(xfl_z M a m i).1]; omega)]
    exact xfl_t M a m ha i
def xrow (comp : ClassId) (m : Nat) : Cell := { cls := comp, slots := Array.replicate m (.int 0), vm := .none }
/-- the machine's state, row after row -/
def xfs (T : State) (a : Nat) (comp : ClassId) (m : Nat) : Nat → State
  | 0 => T
  | i + 1 => ((xfs T a comp m i).pushCell (xrow comp m)).setCell a ((((xfs T a comp m i).heap[a]?).getD (xrow comp m)).setSlot i (.ref (xfs T a comp m i).heap.size))
theorem xfs_top (T : State) (f : JFrame) (a : Nat) (comp : ClassId) (m : Nat) : ∀ i, xfs (T.setTop f) a comp m i = (xfs T a comp m i).setTop f
  | 0 => rfl
  | i + 1 => by simp only [xfs, xfs_top T f a comp m i, State.heap_setTop, State.pushCell_setTop, State.setCell_setTop]
theorem xfs_cell {T : State} {a m : Nat} {comp c0 : ClassId} (h : ∃ cell, T.heap[a]? = some cell ∧ cell.cls = c0 ∧ cell.vm = .none) : ∀ i, ∃ cell, (xfs T a comp m i).heap[a]? = some cell ∧ cell.cls = c0 ∧ cell.vm = .none
  | 0 => h
  | i + 1 => by
    obtain ⟨cell, h1, h2, h3⟩ := xfs_cell (comp := comp) (m := m) h i
    have hlt := (Array.getElem?_eq_some_iff.mp h1).1
    refine ⟨cell.setSlot i (.ref (xfs T a comp m i).heap.size), ?_, h2, h3⟩
    show (Array.setIfInBounds (Array.push (xfs T a comp m i).heap _) _ _)[_]? = _
    rw [h1, Array.getElem?_setIfInBounds, if_pos rfl, if_pos (by rw [Array.size_push]; omega)]
    rfl
theorem xmo : Cond.arrayOver (.array .int) ∈ lw_tbl := by decide +kernel
theorem xma : Cond.arrayClass .int ∈ lw_tbl := by decide +kernel
theorem xfs_inv (G : xG K) {p : Program} {e : Env} {R : Room} {s : State} {m : MethodId} {args : Array Value} {below : List Frame} {meth : Method} {c : Code} {T : State} {locs : List Loc} {cells slots a w n : Nat} {comp cc : ClassId} {kC : Class} (X : Stand p (xl K) e R s m args below meth c T locs cells slots) (hl : ∀ q ∈ locs, xB K < q.base) (hH : xH K M T.heap) (h0 : xz M ≠ 0) (ha : a < xz M) (ht : xt M a = (13, n))
    (hkC : (xs K).vm.classes[comp]? = some kC) (hkind : kC.kind = .array cc .int) (hW : (xs K).WarmedH T.vm) : ∀ i, i ≤ n → ∃ locs', Stand p (xl K) e R s m args below meth c (xfs T (xa K a) comp w i) locs' (cells + i) (slots + i * w) ∧ (∀ q ∈ locs', xB K < q.base) ∧ xH K (xfl M a w i) (xfs T (xa K a) comp w i).heap ∧ (xfs T (xa K a) comp w i).vm = T.vm
  | 0, _ => ⟨locs, by simpa [xfs] using X, hl, hH, rfl⟩
  | i + 1, hi => by
    obtain ⟨locs', X1, l1, H1, v1⟩ := xfs_inv G X hl hH h0 ha ht hkC hkind hW i (by omega)
    obtain ⟨z1, z2⟩ := xfl_z M a w i
    have t1 : xt (xfl M a w i) a = (13, n) := (xfl_t M a w ha i).trans ht
    have hne : xz (xfl M a w i) ≠ 0 := by omega
    have hsz : (xfs T (xa K a) comp w i).heap.size = xa K (xz (xfl M a w i)) := by rw [H1.1, xa_pos hne]
    have H2 : xH K (xnw (xfl M a w i) 0 w w) ((xfs T (xa K a) comp w i).pushCell (xrow comp w)).heap := by
      refine xH_new G H1 hne (size_pushCell _ _) (fun q hq => by show (Array.push _ _)[q]? = _; rw [Array.getElem?_push, if_neg (Nat.ne_of_lt hq)]) ⟨fun ty h => ?_, fun c' q' h h' => ?_, fun c' nm h h' => ?_⟩
      · have h3 : xar 0 = some ty := by simpa [xnw, xt] using h
        cases h3
        have h4 : (xt (xnw (xfl M a w i) 0 w w) (xz (xfl M a w i))) = (0, w) := by simp [xnw, xt]
        refine ⟨xrow comp w, by rw [← hsz]; show (Array.push _ _)[_]? = _; rw [Array.getElem?_push_size], ⟨⟨fun z h => (by cases h), kC, hkC, cc, hkind⟩, fun nm hnm => by cases hnm⟩, fun h => (by cases h), by rw [h4]; simp [xrow], fun j hj => ?_⟩
        rw [h4] at hj
        have hj' : j < w := hj
        unfold xval
        rw [h4]
        simp [xrow, xnw, xi, hj']
      · have h3 : 0 = 20 + c' := by simpa [xnw, xt] using h
        omega
      · have h3 : 0 = 40 + c' := by simpa [xnw, xt] using h
        omega
    have ha2 : a < xz (xnw (xfl M a w i) 0 w w) := by show a < xz (xfl M a w i) + 1; omega
    have t2 : xt (xnw (xfl M a w i) 0 w w) a = (13, n) := by
      show (if a = xz (xfl M a w i) then _ else _) = _
      rw [if_neg (by omega)]; exact t1
    obtain ⟨cell, a1, a2, a3, a4, a5⟩ := (H2.2.2.1 a ha2).1 (.array .int) (by rw [t2]; rfl)
    have hlt : xa K a < (xfs T (xa K a) comp w i).heap.size := by
      rw [H1.1, xa_pos (fun e => by have := H1.2.2.2; subst e; rw [t1] at this; cases this)]; omega
    have a1' : (xfs T (xa K a) comp w i).heap[xa K a]? = some cell := by
      have h5 : ((xfs T (xa K a) comp w i).heap.push (xrow comp w))[xa K a]? = some cell := a1
      rw [Array.getElem?_push, if_neg (Nat.ne_of_lt hlt)] at h5
      exact h5
    have X2 := (X1.pushed (xrow comp w)).stored a1 i (.ref (xfs T (xa K a) comp w i).heap.size)
    have e1 : (xrow comp w).slots.size = w := by simp [xrow]
    have hs1 : xfs T (xa K a) comp w (i + 1) = ((xfs T (xa K a) comp w i).pushCell (xrow comp w)).setCell (xa K a) (cell.setSlot i (.ref (xfs T (xa K a) comp w i).heap.size)) := by
      show State.setCell _ _ _ = _
      rw [a1']; rfl
    have hin : i < (xt (xnw (xfl M a w i) 0 w w) a).2 := by rw [t2]; show i < n; omega
    obtain ⟨ha0, H3⟩ := xH_ast (M1 := xfl M a w (i + 1)) (J := (xfs T (xa K a) comp w (i + 1)).heap) (v := .ref (xfs T (xa K a) comp w i).heap.size) G H2 ha2 (by rw [t2]; exact (by decide : (13 : Nat) ≠ 5)) (by rw [t2]; exact (by decide : (13 : Nat) < 20)) (by rw [t2]; rfl) a1 a2 a3 a4 a5 hin rfl rfl
      (fun b hb => ⟨fun j => rfl, fun j => by show (if b = a ∧ j = i then _ else _) = _; rw [if_neg (fun q => hb q.1)], fun j => rfl⟩)
      (fun j hj => xval_congr rfl rfl (by show (if a = a ∧ j = i then _ else _) = _; rw [if_neg (fun q => hj q.2)]) rfl)
      (by
        unfold xval
        rw [show xt (xfl M a w (i + 1)) a = (13, n) from t2, if_neg (by exact (by decide : ¬ (13 : Nat) < 10)), show xr (xfl M a w (i + 1)) a i = some (xz (xfl M a w i)) from by show (if a = a ∧ i = i then _ else _) = _; rw [if_pos ⟨rfl, rfl⟩], hsz]
        rfl)
      (by rw [hs1]; show (Array.setIfInBounds _ _ _)[_]? = _; rw [Array.getElem?_setIfInBounds, if_pos rfl, if_pos (Array.getElem?_eq_some_iff.mp a1).1]) (by rw [hs1]; exact size_setCell _ _ _) (fun q hq => by rw [hs1]; simp [State.setCell, Array.getElem?_setIfInBounds, Ne.symm hq])
    refine ⟨locs' ++ [⟨xa K a, i⟩], ?_, fun q hq => ?_, H3, ?_⟩
    · rw [hs1]
      rw [e1] at X2
      have e2 : slots + (i + 1) * w = slots + i * w + w := by rw [Nat.succ_mul]; omega
      rw [e2, show cells + (i + 1) = cells + i + 1 by omega]
      exact X2
    · rcases List.mem_append.mp hq with h | h
      · exact l1 q h
      · rw [List.mem_singleton.mp h]
        show xB K < xa K a
        rw [xa_pos ha0]; omega
    · rw [hs1]; exact v1
set_option maxHeartbeats 1000000 in
theorem h_multi (G : xG K) {index : Nat} {x z : Int32} {F : Nat → XM → XP} (hd : decode (yb y) pc = .ok (.multianewarray index 2, 4)) (hk : Cond.classLink (ym y).cls index "[[I" ∈ lw_tbl)
    (h : mA M x z F = some (o, N)) (k : ∀ a M1, F a M1 = some (o, N) → cA K y (pc + 4) L (.ref a :: S) M1 o N) : cA K y pc L (.int z :: .int x :: S) M o N := by
  obtain ⟨⟨⟨hx0, hz0, hx1, hz1⟩, hZ, hU⟩, h⟩ := h_ok h
  have kk := k _ _ h
  generalize hnn : x.toNatClampNeg = n at hx1 hZ hU kk
  generalize hmm : z.toNatClampNeg = w at hz1 hU kk
  intro p e R s m args below meth c H locs cells slots ls z0 u0 C hH hz hu hl
  intro T hT X
  subst hT
  have hW := C.2.2.2.2.2.2.2.2.1
  have hown := C.2.2.2.2.2.2.2.1
  have hzR := C.2.2.2.2.2.2.2.2.2.2.2.1
  have huR := C.2.2.2.2.2.2.2.2.2.2.2.2.1
  have hzne := C.2.2.2.2.2.2.2.2.2.2.2.2.2.2.1
  have hne : xz M ≠ 0 := by omega
  have hpl : e.platform.magicAccessors = ({} : Platform).magicAccessors := by rw [X.admits.platform]
  have hll := Launch.admits_arrayLengthLimit X.admits
  have hlb := Launch.admits_maxHeapBytes X.admits
  have hsz : T.heap.size = xa K (xz M) := by rw [hH.1, xa_pos hne]
  obtain ⟨comp, cA, kA, hcomp, -, hkA, hkindA, hnameA⟩ := arrayOverA_spec (G.2.2.1 _ xmo)
  obtain ⟨comp', kC, cc, hcomp', hkC, hkindC⟩ := Cond.arrayClass_spec (G.2.2.1 _ xma)
  have ecomp : comp' = comp := Option.some.inj (hcomp'.symm.trans hcomp)
  subst ecomp
  obtain ⟨c0, hfc0, hcl⟩ := Cond.classLink_spec hown (xw G rfl hk hW args) e.platform hpl
  have ec0 : c0 = cA := by
    have h1 : s.vm.findClass "[[I" = some cA := by rw [hW.alike.findClass]; exact hnameA
    exact Option.some.inj (hfc0.symm.trans h1)
  subst ec0
  obtain ⟨hg₁, hwarm₁, -⟩ := State.classEntry (e := e) X.warmed hcl
  generalize T.vm.noted m.cls index (.cls c0) = vm₁ at hg₁ hwarm₁
  have hWv : (xs K).WarmedH vm₁ := State.WarmedH.trans hW hwarm₁
  obtain ⟨kA₁, hkA₁, heA⟩ := hWv.alike.2.2 _ _ hkA
  obtain ⟨kC₁, hkC₁, heC⟩ := hWv.alike.2.2 _ _ hkC
  have hkindA₁ : kA₁.kind = .array comp' (.array .int) := by rw [heA]; exact hkindA
  have hkindC₁ : kC₁.kind = .array cc .int := by rw [heC]; exact hkindC
  have X1 := (X.noted hwarm₁).pushed { cls := c0, slots := Array.replicate n .null, vm := .none }
  rw [show (Array.replicate n Value.null).size = n from Array.size_replicate] at X1
  have H1 : xH K (xnw M 13 n n) ((T.setVm vm₁).pushCell { cls := c0, slots := Array.replicate n .null, vm := .none }).heap := by
    refine xH_new G hH hne (size_pushCell _ _) (fun q hq => by show (Array.push T.heap _)[q]? = _; rw [Array.getElem?_push, if_neg (Nat.ne_of_lt hq)]) ⟨fun ty h => ?_, fun c' q' h h' => ?_, fun c' nm h h' => ?_⟩
    · have h3 : xar 13 = some ty := by simpa [xnw, xt] using h
      cases h3
      have h4 : (xt (xnw M 13 n n) (xz M)) = (13, n) := by simp [xnw, xt]
      refine ⟨{ cls := c0, slots := Array.replicate n .null, vm := .none }, by rw [← hsz]; show (Array.push T.heap _)[_]? = _; rw [Array.getElem?_push_size], ⟨⟨fun z h => (by cases h), kA, hkA, comp', hkindA⟩, fun nm hnm => by cases hnm⟩, fun h => (by cases h), by rw [h4]; simp, fun j hj => ?_⟩
      rw [h4] at hj
      have hj' : j < n := hj
      unfold xval
      rw [h4]
      simp [xnw, xr, xrf, hj']
    · have h3 : 13 = 20 + c' := by simpa [xnw, xt] using h
      omega
    · have h3 : 13 = 40 + c' := by simpa [xnw, xt] using h
      omega
  have inv := fun i hi => xfs_inv (w := w) (n := n) (a := xz M) (M := xnw M 13 n n) G X1 C.2.2.2.2.2.2.2.2.2.2.2.2.2.2.2 H1 (by show xz M + 1 ≠ 0; omega) (by show xz M < xz M + 1; omega) (by simp [xnw, xt]) hkC hkindC hWv i hi
  obtain ⟨locsN, XN, lN, HN, vN⟩ := inv n (Nat.le_refl _)
  obtain ⟨zz, uu⟩ := xfl_z (xnw M 13 n n) (xz M) w n
  have zz' : xz (xfl (xnw M 13 n n) (xz M) w n) = xz M + 1 + n := zz
  have uu' : xu (xfl (xnw M 13 n n) (xz M) w n) = xu M + n + n * w := uu
  obtain ⟨t, a1, b1⟩ := kk p e R s m args below meth c _ locsN (cells + 1 + n) (slots + n + n * w) ls z0 u0
    ⟨C.1, C.2.1, C.2.2.1, C.2.2.2.1, C.2.2.2.2.1, C.2.2.2.2.2.1, C.2.2.2.2.2.2.1, C.2.2.2.2.2.2.2.1, C.2.2.2.2.2.2.2.2.1, C.2.2.2.2.2.2.2.2.2.1, C.2.2.2.2.2.2.2.2.2.2.1, C.2.2.2.2.2.2.2.2.2.2.2.1, C.2.2.2.2.2.2.2.2.2.2.2.2.1, C.2.2.2.2.2.2.2.2.2.2.2.2.2.1, C.2.2.2.2.2.2.2.2.2.2.2.2.2.2.1, lN⟩
    HN (by omega) (by omega) hl _ rfl XN
  refine ⟨t, ?_, b1⟩
  have hdg : decode c.code pc = .ok (.multianewarray index 2, 4) := by rw [C.2.1]; exact hd
  have hexec := C.1
  show Steps p.tables e below (T.setTop (F0 m pc ls (.int z :: .int x :: S.map (xv K)))) t
  jvm_step X.here [hexec, hdg]
  simp only [multianewarray.sem, wp_bind', W.resolveClassAt_links (vm' := vm₁) (State.method?_setTop (F0 m pc ls (.int z :: .int x :: S.map (xv K))) X.here.top) hg₁]
  rw [W.popN, if_neg (by decide)]
  refine ⟨F0 m pc ls (.int z :: .int x :: S.map (xv K)), State.topJava?_setTop' (s := T.setVm vm₁) _ X.here.top, [.int x, .int z], S.map (xv K), rfl, rfl, ?_⟩
  simp only [List.mapM_cons, List.mapM_nil, wp_bind', wp_pure']
  have eS : ((T.setTop (F0 m pc ls (.int z :: .int x :: S.map (xv K)))).setVm vm₁).setTop (F0 m pc ls (S.map (xv K))) = (T.setVm vm₁).setTop (F0 m pc ls (S.map (xv K))) := by
    show ((T.setVm vm₁).setTop _).setTop _ = _
    rw [State.setTop_setTop]
  show wp _ _ _ _ _ _ (((T.setTop (F0 m pc ls (.int z :: .int x :: S.map (xv K)))).setVm vm₁).setTop (F0 m pc ls (S.map (xv K))))
  rw [eS]
  have hroom1 : T.heap.size + (1 + n) ≤ e.platform.maxCells := X.cellsAbove (by omega)
  have hroom2 : T.slotsUsed + (n + n * w) ≤ e.platform.maxSlots := X.slotsAbove (by omega)
  rw [multianewarray.make]
  simp only [wp_bind', W.ite, hx0, if_false, wp_pure', W.theClass, State.vm_setTop, State.vm_setVm, hkA₁, hkindA₁, Option.some.injEq, exists_eq_left', hnn]
  refine xm_newArray (k := kA₁) (comp := comp') (ty := .array .int) hkA₁ hkindA₁ hx1 hll hlb (by decide) rfl rfl (by show T.heap.size < _; omega) (by show T.slotsUsed + _ ≤ _; omega) ?_
  have hfind : ([z].find? (· < 0)) = none := by simp [hz0]
  simp only [hfind]
  rw [ite_self, wp_bind', Std.Legacy.Range.forIn_eq_forIn_range']
  have hrs : ([:n] : Std.Legacy.Range).size = n := by simp [Std.Legacy.Range.size]
  rw [hrs]
  show wp (forIn (List.range' 0 n 1) PUnit.unit _) _ _ _ _ _ _
  refine wp_forIn_inv (fun rest s' => ∃ i, i ≤ n ∧ rest = List.range' i (n - i) ∧ s' = (xfs ((T.setVm vm₁).pushCell { cls := c0, slots := Array.replicate n .null, vm := .none }) (xa K (xz M)) comp' w i).setTop (F0 m pc ls (S.map (xv K)))) _ _ ⟨0, Nat.zero_le _, rfl, by rw [State.pushCell_setTop]; rfl⟩ ?_ ?_
  · rintro q rest s' d' acts' Q' ⟨i, hi, hq, rfl⟩ hnext
    have hlt : i < n := by
      rcases Nat.lt_or_ge i n with h | h
      · exact h
      · rw [show n - i = 0 by omega] at hq; cases hq
    rw [show n - i = (n - (i + 1)) + 1 by omega, List.range'_succ] at hq
    obtain ⟨rfl, hrest⟩ := List.cons.inj hq
    obtain ⟨locsI, XI, -, HI, vI⟩ := inv q hi
    obtain ⟨zI, uI⟩ := xfl_z (xnw M 13 n n) (xz M) w q
    have zI' : xz (xfl (xnw M 13 n n) (xz M) w q) = xz M + 1 + q := zI
    have hmul : q * w + w ≤ n * w := by
      have := Nat.mul_le_mul_right w (show q + 1 ≤ n from hlt)
      rw [Nat.succ_mul] at this; exact this
    have hsI : (xfs ((T.setVm vm₁).pushCell { cls := c0, slots := Array.replicate n .null, vm := .none }) (xa K (xz M)) comp' w q).heap.size < e.platform.maxCells := by
      have := XI.cellsAbove (n := 1) (by omega)
      omega
    have huI : (xfs ((T.setVm vm₁).pushCell { cls := c0, slots := Array.replicate n .null, vm := .none }) (xa K (xz M)) comp' w q).slotsUsed + w ≤ e.platform.maxSlots := XI.slotsAbove (n := w) (by omega)
    have vI' : (xfs ((T.setVm vm₁).pushCell { cls := c0, slots := Array.replicate n .null, vm := .none }) (xa K (xz M)) comp' w q).vm = vm₁ := vI
    obtain ⟨cell, c1, c2, c3⟩ := xfs_cell (T := (T.setVm vm₁).pushCell { cls := c0, slots := Array.replicate n .null, vm := .none }) (a := xa K (xz M)) (m := w) (comp := comp') (c0 := c0) ⟨_, by rw [← hsz]; show (Array.push T.heap _)[_]? = _; rw [Array.getElem?_push_size], rfl, rfl⟩ q
    obtain ⟨cell', d1, -, -, d4, -⟩ := (HI.2.2.1 (xz M) (by omega)).1 (.array .int) (by rw [xfl_t _ _ _ (by show xz M < xz M + 1; omega)]; simp [xnw, xt]; rfl)
    cases c1.symm.trans d1
    rw [xfl_t _ _ _ (by show xz M < xz M + 1; omega)] at d4
    have d4' : cell.slots.size = n := by rw [d4]; simp [xnw, xt]
    have hltc := (Array.getElem?_eq_some_iff.mp c1).1
    simp only [wp_bind']
    rw [multianewarray.make]
    simp only [wp_bind', W.ite, hz0, if_false, wp_pure', W.theClass, State.vm_setTop, vI', hkC₁, hkindC₁, Option.some.injEq, exists_eq_left', hmm]
    refine xm_newArray (k := kC₁) (comp := cc) (ty := .int) (by rw [State.vm_setTop, vI']; exact hkC₁) hkindC₁ hz1 hll hlb (by decide) rfl rfl hsI huI ?_
    simp only [wp_bind', W.writeLoc, wp_pure']
    have hsz' : ((T.setVm vm₁).setTop (F0 m pc ls (S.map (xv K)))).heap.size = xa K (xz M) := hsz
    rw [hsz']
    refine ⟨cell, ?_, (by rw [c3]; exact fun h => (by cases h)), (by rw [d4']; exact hlt), ?_, hnext _ _ _ ⟨q + 1, hlt, hrest, ?_⟩⟩
    · rw [State.pushCell_setTop, State.heap_setTop]
      show (Array.push _ _)[_]? = _
      rw [Array.getElem?_push, if_neg (Nat.ne_of_lt hltc)]
      exact c1
    · rw [c2, c3]
      show State.fitsSlot _ _ _ _ _ = true
      simp [State.fitsSlot, State.slotType?, vI', hkA₁, hkindA₁]
      rfl
    · rw [State.pushCell_setTop, State.setCell_setTop]
      show _ = State.setTop (State.setCell _ _ _) _
      rw [c1]
      rfl
  · rintro s' d' acts' ⟨i, hi, hq, rfl⟩
    have hiN : i = n := by
      rcases Nat.lt_or_ge i n with h | h
      · rw [show n - i = (n - (i + 1)) + 1 by omega, List.range'_succ] at hq; cases hq
      · omega
    subst hiN
    have hsz' : ((T.setVm vm₁).setTop (F0 m pc ls (S.map (xv K)))).heap.size = xa K (xz M) := hsz
    simp only [wp_pure', hsz', wp_bind', W.mark, W.pushRef, State.topJava?_setTop' _ XN.here.top, Option.some.injEq, exists_eq_left', State.setTop_setTop, State.heap_setTop]
    intro acts
    simp [jvm, XN.here.top]
    rw [hsz]
    exact a1
end XR
