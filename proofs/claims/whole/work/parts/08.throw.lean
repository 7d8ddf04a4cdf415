/-! a throw: new, dup, ldc, the constructor, athrow -/
def xUp : List String := ["java/lang/RuntimeException", "java/lang/Exception"]
def xthA (X : String) : List Cond := Bundle.throwableAtoms ++ Bundle.throwableSAtoms ++ Bundle.chainSAtoms X xUp
def xthB (X : String) : List Cond :=
  [.instantiable X 6, .castable X X, .selects X Bundle.tFill0 Bundle.tFill0, .selects X Bundle.tFill Bundle.tFill,
   .lays X Bundle.tN "cause" "Ljava/lang/Throwable;", .lays X Bundle.tN "stackTrace" Bundle.steD, .lays X Bundle.tN "suppressedExceptions" Bundle.listD, .lays X Bundle.tN "detailMessage" "Ljava/lang/String;"]
def xthC (X : String) : List Cond := [.fieldLink Bundle.tN 198 Bundle.tN "backtrace" "Ljava/lang/Object;", .lays Bundle.tN Bundle.tN "backtrace" "Ljava/lang/Object;", .lays X Bundle.tN "backtrace" "Ljava/lang/Object;"]
def xthS : List Cond := [.laysStatic Bundle.tN "UNASSIGNED_STACK" Bundle.steD, .laysStatic Bundle.tN "SUPPRESSED_SENTINEL" Bundle.listD]
def xthOk (w : Cond) : Bool := decide (w ∈ xthS) || w.onTables && (w.keeps || w.faceAtom) && decide (w ∈ lw_tbl)
theorem xth_ok : ∀ X ∈ xex, ∀ w ∈ xthA X ++ (xthB X ++ xthC X), xthOk w = true := by decide +kernel
theorem xth_st : Cond.laysStatic Bundle.tN "UNASSIGNED_STACK" Bundle.steD ∈ lw_tbl ∧ Cond.laysStatic Bundle.tN "SUPPRESSED_SENTINEL" Bundle.listD ∈ lw_tbl ∧ Cond.initialized Bundle.tN ∈ lw_tbl := by decide +kernel
theorem xth_fit : (∀ X ∈ xex, Bundle.fit X = true ∧ Cond.initialized X ∈ lw_tbl ∧ Cond.instantiable X 6 ∈ lw_tbl) ∧ ∀ n ∈ xUp, Bundle.fit n = true := by decide +kernel
theorem xlayS {K : XK} (G : xG K) {C n d : String} (hl : Cond.laysStatic C n d ∈ lw_tbl) {U : State} (hW : (xs K).WarmedH U.vm) (hq : ∀ q : Nat, q ≤ xB K → U.heap[q]? = (xs K).heap[q]?) (args : Array Value) : (Cond.laysStatic C n d).before args U = true := by
  have h := Cond.laysStatic_setVm hW.alike (G.2.2.1 _ hl)
  obtain ⟨c, k, i, f, a, cell, hc, hi, hst, ha, hcell, hs, hcls, hlt, hty⟩ := Cond.laysStatic_spec h
  have h1 : (xs K).heap[a]? = some cell := hcell
  have h2 := (Array.getElem?_eq_some_iff.mp h1).1
  exact Cond.laysStatic_of (s := U) hc hi hst ha (by rw [hq a (by have := G.1; omega)]; exact h1) hs hcls hlt hty
theorem xth_w {K : XK} (G : xG K) {w : Cond} (h : xthOk w = true) {U : State} (hW : (xs K).WarmedH U.vm) (hq : ∀ q : Nat, q ≤ xB K → U.heap[q]? = (xs K).heap[q]?) (args : Array Value) : w.before args U = true := by
  unfold xthOk at h
  simp only [Bool.and_eq_true, Bool.or_eq_true, decide_eq_true_eq] at h
  rcases h with h | ⟨⟨h1, h2⟩, h3⟩
  · rcases List.mem_cons.mp h with rfl | h
    · exact xlayS G xth_st.1 hW hq args
    · rw [List.mem_singleton.mp h]
      exact xlayS G xth_st.2.1 hW hq args
  rcases h2 with h2 | h2
  · exact xw G (by rw [h1, h2]; rfl) h3 hW args
  · exact xwF G h1 h2 h3 hW args
theorem xth_all {K : XK} (G : xG K) {X own : String} {ic : Nat} (hX : X ∈ xex) (hl : Cond.methodLink own ic (Bundle.initS X) ∈ lw_tbl) {U : State} (hW : (xs K).WarmedH U.vm) (hq : ∀ q : Nat, q ≤ xB K → U.heap[q]? = (xs K).heap[q]?) (args : Array Value) : ∀ w ∈ Bundle.ownAtoms own ic X xUp, w.before args U = true := by
  have key : ∀ w ∈ xthA X ++ (xthB X ++ xthC X), w.before args U = true := fun w hw => xth_w G (xth_ok X hX w hw) hW hq args
  intro w hw
  rcases List.mem_append.mp hw with h | h
  · exact key w (List.mem_append.mpr (Or.inl h))
  · have h' : w ∈ Cond.methodLink own ic (Bundle.initS X) :: (xthB X ++ (Cond.isRef (.static Bundle.tN "UNASSIGNED_STACK" Bundle.steD) :: Cond.isRef (.static Bundle.tN "SUPPRESSED_SENTINEL" Bundle.listD) :: xthC X)) := h
    rcases List.mem_cons.mp h' with rfl | h'
    · exact xw G rfl hl hW args
    · rcases List.mem_append.mp h' with h' | h'
      · exact key w (List.mem_append.mpr (Or.inr (List.mem_append.mpr (Or.inl h'))))
      · rcases List.mem_cons.mp h' with rfl | h'
        · exact xstat G xth_st.1 xth_st.2.2 (G.2.2.2.1 _ List.mem_cons_self) hW hq args
        · rcases List.mem_cons.mp h' with rfl | h'
          · exact xstat G xth_st.2.1 xth_st.2.2 (G.2.2.2.1 _ (List.mem_cons_of_mem _ List.mem_cons_self)) hW hq args
          · exact key w (List.mem_append.mpr (Or.inr (List.mem_append.mpr (Or.inr h'))))
/-- the same invocation, begun anew where it stands -/
theorem xm_rebase {p : Program} {l : Launch} {e : Env} {R : Room} {s : State} {m : MethodId} {args : Array Value} {below : List Frame} {meth : Method} {c : Code} {T : State} {locs : List Loc} {cells slots : Nat} (X : Stand p l e R s m args below meth c T locs cells slots) (hc : cells ≤ R.cells) (hs : slots ≤ R.slots) :
    Stand p l e { R with cells := R.cells - cells, slots := R.slots - slots } (T.setFrames (.invoking m args :: below)) m args below meth c T [] 0 0 := by
  obtain ⟨g₀, hfr⟩ := X.frames_eq
  have hcur : T.cur < T.threads.size := State.cur_lt_of_frames hfr
  obtain ⟨t, ht, -⟩ := State.frames_cons hfr
  have hF : (T.setFrames (.invoking m args :: below)).frames = .invoking m args :: below := State.frames_setFrames _ hcur
  have hmeth : T.vm.method? m = some meth := X.method'
  refine ⟨X.admits, X.cas, X.clock, hF, ?_, ?_, hmeth, X.code, X.here, X.tail, State.WarmedH.refl (T.setFrames (.invoking m args :: below)), by rw [State.stackLimits_setFrames], by rw [State.stackBytes_setFrames], ?_⟩
  · have hr := X.room
    have h1 := X.heapSize
    have h2 := X.used
    have h3 := X.book
    have hlo : (T.setFrames (.invoking m args :: below)).localsInUse = s.localsInUse := by
      rw [State.localsInUse_invoking hF hmeth X.code, State.localsInUse_invoking X.frames X.method X.code]
    have hli : e.platform.stackLimits (T.setFrames (.invoking m args :: below)).me = e.platform.stackLimits s.me := by
      rw [State.stackLimits_setFrames]; exact X.limits
    have hby : (T.setFrames (.invoking m args :: below)).me.stackBytes = s.me.stackBytes := by
      rw [State.stackBytes_setFrames]; exact X.bytes
    simp only [State.hasRoom, Bool.and_eq_true, decide_eq_true_eq] at hr ⊢
    obtain ⟨⟨⟨⟨r1, r2⟩, r3⟩, r4⟩, r5⟩ := hr
    rw [hlo, hF, hli, hby]
    rw [X.frames] at r2
    refine ⟨⟨⟨⟨r1, r2⟩, ?_⟩, ?_⟩, h3⟩
    · show T.heap.size + (R.cells - cells) ≤ e.platform.maxCells
      omega
    · show T.slotsUsed + (R.slots - slots) ≤ e.platform.maxSlots
      omega
  · have hh := X.hears
    have hal := X.warmed.alike
    rcases below with _ | ⟨fr, rest⟩
    · simp only [State.hears, X.method] at hh
      show (T.vm.method? m).any _ = true
      rw [hmeth]; exact hh
    · cases fr with
      | java g =>
        show ((T.code? g.method).bind fun c => (decode c.code g.pc).toOption).isSome = true
        have h1 : T.code? g.method = s.code? g.method := by rw [State.code?_eq, State.code?_eq, hal.method?]
        rw [h1]; exact hh
      | native g => rfl
      | proc g => rfl
      | _ =>
        simp only [State.hears, X.method] at hh
        show (T.vm.method? m).any _ = true
        rw [hmeth]; exact hh
  · obtain ⟨t', ht', -⟩ := State.frames_cons hF
    have h1 := (State.sameButNew.refl (T.setFrames (.invoking m args :: below)) ht').setFrames T.frames (State.cur_lt_of_frames hF)
    rw [State.setFrames_setFrames, State.setFrames_self ht] at h1
    exact h1
theorem xstr {K : XK} (G : xG K) {own tx : String} {k cur : Nat} (hm : Cond.stringRef own k tx ∈ lw_tbl) (hcur : (xs K).vm.findClass own = some cur) {U : State} (hW : (xs K).WarmedH U.vm) : ∃ a, vk_R own k tx a U := by
  have h1 := G.2.2.1 _ hm
  obtain ⟨_, _, _, a, _, _, _, _, _, hev⟩ := Cond.stringRef_spec hcur h1
  exact ⟨a, vk_R.warm hW (vk_R.of h1 hev)⟩
section XR
variable {K : XK} {y : YT} {pc : Nat} {L : XL} {S : List Value} {M N : XM} {o : XO}
set_option maxHeartbeats 1000000 in
theorem x_throw (G : xG K) {ei ix isx ic : Nat} {X tx : String} (hX : xex[ei]? = some X) (d0 : decode (yb y) pc = .ok (.new ix, 3)) (d1 : decode (yb y) (pc + 3) = .ok (.dup, 1)) (d2 : decode (yb y) (pc + 4) = .ok (.ldc isx, 2)) (d3 : decode (yb y) (pc + 6) = .ok (.invokespecial ic, 3)) (d4 : decode (yb y) (pc + 9) = .ok (.athrow, 1))
    (hk : Cond.classLink (ym y).cls ix X ∈ lw_tbl) (hm : Cond.methodLink (ym y).cls ic (Bundle.initS X) ∈ lw_tbl) (hst : Cond.stringRef (ym y).cls isx tx ∈ lw_tbl) (hh : yh y = []) (hfr : 6 ≤ yf y) (hlo : 82 ≤ yl y) (hz1 : xz M < ZM) (hu1 : xu M + 6 ≤ UM) :
    cA K y pc L [] M (.inr (xz M)) (xnw M (40 + ei) 0 6) := by
  intro p e R s m args below meth c H locs cells slots ls z0 u0 C hH hz hu hl
  intro T hT X0
  subst hT
  have hlocks : meth.locks = false := C.2.2.2.2.1
  have hXm := List.mem_of_getElem? hX
  have hW := C.2.2.2.2.2.2.2.2.1
  have hzR := C.2.2.2.2.2.2.2.2.2.2.2.1
  have huR := C.2.2.2.2.2.2.2.2.2.2.2.2.1
  have hz0 := C.2.2.2.2.2.2.2.2.2.2.2.2.2.2.1
  have hfR := C.2.2.2.2.2.2.2.2.2.1
  have hlR := C.2.2.2.2.2.2.2.2.2.2.1
  have hown := C.2.2.2.2.2.2.2.1
  have hne : xz M ≠ 0 := by omega
  have hsz : T.heap.size = xa K (xz M) := by rw [hH.1, xa_pos hne]
  have hins := xw G rfl (xth_fit.1 X hXm).2.2 hW args
  obtain ⟨vm', cX, kX, h1, h2, h3, h4, X1, st1⟩ := X0.newCold C.1 hown (xw G rfl hk hW args) hins (xw G rfl (xth_fit.1 X hXm).2.1 hW args) (g := F0 m pc ls []) rfl (by rw [C.2.1]; exact d0) (by omega) (by omega)
  have hWv : s.WarmedH vm' := X1.warmed
  have X2 := xm_rebase (X0.noted hWv) (by omega) (by omega)
  have X3 := X2.pushed { cls := cX, slots := kX.instanceTypes.map defaultValue, vm := .none }
  obtain ⟨kX', hkX', he⟩ := hWv.alike.2.2 _ _ h2
  have hWs : (xs K).WarmedH vm' := State.WarmedH.trans hW hWv
  obtain ⟨cur, hcur⟩ : ∃ cur, (xs K).vm.findClass (ym y).cls = some cur := ⟨m.cls, by rw [← hW.alike.findClass]; exact hown⟩
  obtain ⟨q, hq⟩ := xstr G (U := (T.setVm vm').setFrames (.invoking m args :: below)) hst hcur hWs
  have hown' : ((T.setVm vm').setFrames (.invoking m args :: below)).vm.findClass (ym y).cls = some m.cls := by
    show vm'.findClass _ = _
    rw [hWv.alike.findClass]; exact hown
  have htr : e.platform.stackTraces = false := Launch.traces_off G.2.2.2.2.1 X0.admits
  let Qt : State → Prop := fun U => U.status = .running ∧ Ended U below (.threw (xa K (xz M))) ∧ (T.setVm vm').WarmedH U.vm ∧ ((T.setVm vm').setFrames (.invoking m args :: below)).sameButNew ({ U with vm := vm' } : State) [] (0 + 1) (0 + 6) ∧ ∃ ce, U.heap[xa K (xz M)]? = some ce ∧ vm'.findClass X = some ce.cls ∧ ce.vm = .none
  have hty : kX'.instanceTypes = kX.instanceTypes := by rw [he]
  have hslots : (kX.instanceTypes.map defaultValue).size = 6 := by rw [Array.size_map]; exact h4
  have k3 : W p (xl K) e { R with cells := R.cells - cells, slots := R.slots - slots } ((T.setVm vm').setFrames (.invoking m args :: below)) m args below meth c (T.heap.push { cls := cX, slots := kX.instanceTypes.map defaultValue, vm := .none }) [] (0 + 1) (0 + 6) Qt (F0 m (pc + 6) ls [.ref q, .ref (xa K (xz M)), .ref (xa K (xz M))]) := by
    intro T2 hT2 Y
    obtain ⟨U, u1, u2, u3, u4, u5, ce, u6, u7⟩ := Y.ctorThrowS C.1 htr hown' (xth_fit.1 X hXm).1 xth_fit.2 (xth_all G hXm hm (U := (T.setVm vm').setFrames (.invoking m args :: below)) hWs hH.2.1 args) (fun x hx => by cases hx) (a := xa K (xz M)) (cX := cX) (kX := kX')
      (by show vm'.findClass X = some cX; rw [hWv.alike.findClass]; exact h1) hkX' (by rw [hT2, ← hsz, Array.getElem?_push_size, ← hty]) (by show T.heap.size ≤ _; rw [hsz]; exact Nat.le_refl _) (msg := .ref q) rfl (g := F0 m (pc + 6) ls [.ref q, .ref (xa K (xz M)), .ref (xa K (xz M))]) rfl (hl.1.1.trans C.2.2.1.symm) rfl rfl (rest := []) rfl
      (by rw [C.2.1]; exact d3) (by rw [C.2.1]; exact d4) (fun x hx => by rw [C.2.2.2.2.2.1, hh] at hx; cases hx) (by show 2 + 3 < R.frames; omega) (by show 2 * 0 + (1 + 0) + (13 * (2 + 1) + 42) ≤ R.locals; omega)
    exact ⟨U, u1, u2, u3, u4, u5, ce, u6, u7.cls, u7.vm⟩
  have k2 := va_ldcS (p := p) (e := e) C.1 C.2.1 hown' hq d2 k3
  have k1 := lv_dup (va := .ref (xa K (xz M))) C.1 C.2.1 d1 rfl k2
  rw [hslots] at X3
  obtain ⟨U, u1, u2, u3, u4, u5, ce, u6, u7, u8⟩ := k1 _ rfl X3
  obtain ⟨q1, q2, q3, q4, q5, q6⟩ := u5
  have hs' : (T.setVm vm').sameButNew ({ U with vm := vm' } : State) [] (0 + 1) (0 + 6) := by
    refine ⟨?_, q2, q3, q4, q5, q6⟩
    rw [State.setFrames_setFrames] at q1
    exact q1
  refine ⟨U, st1 U (by rw [hsz]; exact u1), u2, u3, ?_, State.WarmedH.trans hWv u4, ⟨by show z0 ≤ xz M + 1; omega, by show u0 ≤ xu M + 6; omega, by show xz M + 1 ≤ ZM; omega, hu1⟩, locs ++ [], ?_, ?_⟩
  · have hU1 : U.heap.size ≤ T.heap.size + (0 + 1) := q3
    have hU2 := (Array.getElem?_eq_some_iff.mp u6).1
    refine xH_new G hH hne (by omega) (fun z hz' => ?_) ⟨fun ty h => ?_, fun c' q' h h' => ?_, fun c' nm h h' => ?_⟩
    · obtain ⟨cz, hcz⟩ : ∃ cz, T.heap[z]? = some cz := ⟨_, Array.getElem?_eq_getElem hz'⟩
      obtain ⟨cw, w1, w2, w3, w4⟩ := q6 z cz hcz
      have hsl : cw.slots = cz.slots := Array.ext_getElem? fun i => w4 i (by simp)
      have hcw : cw = cz := by rw [w2, hsl]
      rw [hcz, ← hcw]; exact w1
    · have h0 : xar (40 + ei) = some ty := by simpa [xnw, xt] using h
      unfold xar at h0
      split at h0 <;> first | omega | cases h0
    · have h0 : 40 + ei = 20 + c' := by simpa [xnw, xt] using h
      have h7 := (List.getElem?_eq_some_iff.mp h').1
      simp [xcl] at h7
      omega
    · have h0 : 40 + ei = 40 + c' := by simpa [xnw, xt] using h
      have h8 : c' = ei := by omega
      subst h8
      cases hX.symm.trans h'
      exact ⟨ce, u6, by rw [← hWs.alike.findClass]; exact u7, by rw [u8]; rfl⟩
  · rw [show xz (xnw M (40 + ei) 0 6) - z0 = cells + (0 + 1) by show xz M + 1 - z0 = _; omega, show xu (xnw M (40 + ei) 0 6) - u0 = slots + (0 + 6) by show xu M + 6 - u0 = _; omega]
    exact (X0.noted hWv).same.trans (hs'.setVm s.vm)
  · rw [List.append_nil]
    exact C.2.2.2.2.2.2.2.2.2.2.2.2.2.2.2
end XR
/-! a catch: the types are looked up one by one -/
theorem xm_entry {Q : Handler → Pre} {E : CtlPost} {e : Env} {d : Bool} {acts : List Action} {u : State} {f : JFrame} {a : Addr} {x : ExceptionTableEntry} {t : List ExceptionTableEntry} {c : ClassId} {cell : Cell} (b : Bool) (hx : covers x f.pc = true) (h0 : x.catchType ≠ 0)
    (hl : u.vm.ClassLinks e.platform f.method.cls x.catchType c) (hcell : u.heap[a]? = some cell) (hobj : ∀ k, cell.vm ≠ .statics k) (hk : ∃ k, u.vm.classes[cell.cls]? = some k) (hc : ∃ k, u.vm.classes[c]? = some k) (hfit : u.vm.assignable cell.cls c = b) :
    wp (findHandler.go f a (x :: t)) Q E e d acts u ↔ if b = true then Q (.found x.handlerPc) d acts (u.setVm (u.vm.noted f.method.cls x.catchType (.cls c))) else wp (findHandler.go f a t) Q E e d acts (u.setVm (u.vm.noted f.method.cls x.catchType (.cls c))) := by
  simp only [covers] at hx
  have hal : u.vm.Alike (u.vm.noted f.method.cls x.catchType (.cls c)) := (Vm.Alike.refl u.vm).noted _ _ _
  obtain ⟨ha, ht⟩ := (resolveClass_links e.toSetting hl).op (op := VmOp.resolveClass f.method.cls x.catchType) rfl
  obtain ⟨k1, hk1⟩ := hk
  obtain ⟨k2, hk2⟩ := hc
  obtain ⟨k3, hk3, -⟩ := hal.2.2 _ _ hk1
  obtain ⟨k4, hk4, -⟩ := hal.2.2 _ _ hk2
  have hfit' : (u.vm.noted f.method.cls x.catchType (.cls c)).assignable cell.cls c = b := by rw [hal.assignable]; exact hfit
  cases b <;> simp [findHandler.go, hx, h0, ha, ht, hcell, hobj, hk3, hk4, hfit', VmOp.dirties, VmOp.acts]
theorem xm_go {s : State} {e : Env} {f : JFrame} {a : Addr} {cell : Cell} {args : Array Value} {own X : String} (hpl : e.platform.magicAccessors = ({} : Platform).magicAccessors) (hobj : cell.vm.isStatics = false) (hown : s.vm.findClass own = some f.method.cls) (hX : s.vm.findClass X = some cell.cls) (x : ExceptionTableEntry) (rest : List ExceptionTableEntry)
    (hx : covers x f.pc = true) (h0 : x.catchType ≠ 0) (hxl : (Cond.classLink own x.catchType X).before args s = true) : ∀ (pre : List (ExceptionTableEntry × String)) (u : State), s.WarmedH u.vm → u.heap[a]? = some cell →
      (∀ q ∈ pre, covers q.1 f.pc = true ∧ q.1.catchType ≠ 0 ∧ (Cond.classLink own q.1.catchType q.2).before args s = true ∧ ∃ t, s.vm.findClass q.2 = some t ∧ s.vm.assignable cell.cls t = false) →
      ∃ vm', s.WarmedH vm' ∧ ∀ (Q : Handler → Pre) (E : CtlPost) (d : Bool) (acts : List Action), wp (findHandler.go f a (pre.map (fun q => q.1) ++ x :: rest)) Q E e d acts u ↔ Q (.found x.handlerPc) d acts (u.setVm vm') := by
  have one : ∀ (u : State) (z : ExceptionTableEntry) (nm : String) (t : ClassId), s.WarmedH u.vm → (Cond.classLink own z.catchType nm).before args s = true → s.vm.findClass nm = some t →
      u.vm.ClassLinks e.platform f.method.cls z.catchType t ∧ s.WarmedH (u.vm.noted f.method.cls z.catchType (.cls t)) ∧ ∃ k, u.vm.classes[t]? = some k := by
    intro u z nm t hW hlk ht
    obtain ⟨c', hc', hcl⟩ := Cond.classLink_spec hown hlk e.platform hpl
    cases ht.symm.trans hc'
    obtain ⟨dk, _, _, kt, hd, _, _, _, _, hkt, _, hopen⟩ := hcl.here
    obtain ⟨kt', hkt', -⟩ := hW.alike.2.2 _ _ hkt
    exact ⟨hW.classLinks hcl, hW.noted hd hopen (State.rightAt_cls hcl), kt', hkt'⟩
  intro pre
  induction pre with
  | nil =>
    intro u hW hcell _
    obtain ⟨a1, a2, a3⟩ := one u x X cell.cls hW hxl hX
    refine ⟨_, a2, fun Q E d acts => ?_⟩
    have := xm_entry (Q := Q) (E := E) (d := d) (acts := acts) (t := rest) true hx h0 a1 hcell (VmData.ne_statics_of hobj) a3 a3 (va_asg _ _)
    simpa using this
  | cons z zs ih =>
    intro u hW hcell hall
    obtain ⟨b1, b2, b3, t, b4, b5⟩ := hall z List.mem_cons_self
    obtain ⟨a1, a2, a3⟩ := one u z.1 z.2 t hW b3 b4
    obtain ⟨-, -, a4⟩ := one u x X cell.cls hW hxl hX
    obtain ⟨vm', c1, c2⟩ := ih (u.setVm (u.vm.noted f.method.cls z.1.catchType (.cls t))) a2 hcell (fun q hq => hall q (List.mem_cons_of_mem _ hq))
    refine ⟨vm', c1, fun Q E d acts => ?_⟩
    have := xm_entry (Q := Q) (E := E) (d := d) (acts := acts) (t := zs.map (fun q => q.1) ++ x :: rest) false b1 b2 a1 hcell (VmData.ne_statics_of hobj) a4 a3 (by rw [hW.alike.assignable]; exact b5)
    rw [List.map_cons, List.cons_append, this, if_neg (by decide), c2]
    rfl
theorem xm_caught {tb : Tables} {e : Env} {T target : State} {g : JFrame} {c : Code} {below : List Frame} {a : Addr} (h : At T g.method c below) {pc : Nat} {vm' : Vm}
    (hfind : ∀ (Q : Handler → Pre) (E : CtlPost) (d : Bool) (acts : List Action), wp (findHandler g a) Q E e d acts ((T.setTop g).pushFrame (.throwing a)) ↔ Q (.found pc) d acts (((T.setTop g).pushFrame (.throwing a)).setVm vm'))
    (hrest : Steps tb e below ((T.setVm vm').setTop { g with pc := pc, stack := [.ref a] }) target) : Steps tb e below ((T.setTop g).pushFrame (.throwing a)) target := by
  obtain ⟨hgo, hw⟩ := h.throwing a
  obtain ⟨g₀, hg⟩ := Option.isSome_iff_exists.mp h.top
  obtain ⟨r, hr⟩ := State.topJava?_eq_some.mp hg
  have hr' : (T.setVm vm').frames = .java g₀ :: r := hr
  refine Steps.head hgo hw ?_
  rw [stepThread_throwing (frames_entered h.top _)]
  have hstep : (stepThrowing e ((T.setTop g).pushFrame (.throwing a)) a (.java g :: T.frames.tail)).1 = (((T.setTop g).pushFrame (.throwing a)).setVm vm').setFrames (.java { g with pc := pc, stack := [.ref a] } :: T.frames.tail) := by
    simp only [stepThrowing, searchFrame, vmDo]
    generalize hres : Sem.go _ e false [] _ = res
    obtain ⟨as, rfl, -⟩ := Sem.eq_ok_of hres (a := Handler.found pc) (s' := ((T.setTop g).pushFrame (.throwing a)).setVm vm') (acts' := []) (by simp [hfind _ _ _ _])
    rfl
  rw [hstep]
  rw [State.setTop_of_frames _ hr'] at hrest
  have e1 : (((T.setTop g).pushFrame (.throwing a)).setVm vm').setFrames (.java { g with pc := pc, stack := [.ref a] } :: T.frames.tail) = (T.setVm vm').setFrames (.java { g with pc := pc, stack := [.ref a] } :: r) := by
    rw [hr, List.tail_cons, State.pushFrame, State.setTop_of_frames _ hr]
    show (((T.setFrames _).setFrames _).setFrames _).setVm vm' = (T.setFrames _).setVm vm'
    rw [State.setFrames_setFrames, State.setFrames_setFrames]
  rw [e1]
  exact hrest
section XR
variable {K : XK} {y : YT} {pc : Nat} {L : XL} {S : List Value} {M N : XM} {o : XO}
theorem cT_catch (G : xG K) {a ei : Nat} {X : String} (hX : xex[ei]? = some X) (ha : a < xz M) (ht : (xt M a).1 = 40 + ei) (pre : List ((Nat × Nat × Nat × Nat) × String)) (x : Nat × Nat × Nat × Nat) (rest : List (Nat × Nat × Nat × Nat)) (hh : yh y = pre.map (fun q => q.1) ++ x :: rest)
    (hp : ∀ q ∈ pre, q.1.1 ≤ pc ∧ pc < q.1.2.1 ∧ q.1.2.2.2 ≠ 0 ∧ Cond.classLink (ym y).cls q.1.2.2.2 q.2 ∈ lw_tbl ∧ q.2 ∈ xex ∧ X ≠ q.2) (hx : x.1 ≤ pc ∧ pc < x.2.1 ∧ x.2.2.2 ≠ 0 ∧ Cond.classLink (ym y).cls x.2.2.2 X ∈ lw_tbl) (k : cA K y x.2.2.1 L [.ref a] M o N) : cT K y pc L a M o N := by
  intro p e R s m args below meth c locs cells slots ls st z0 u0 T C hH hz hu hl X0
  have hXm := List.mem_of_getElem? hX
  have hW := C.2.2.2.2.2.2.2.2.1
  have hpl : e.platform.magicAccessors = ({} : Platform).magicAccessors := by rw [X0.admits.platform]
  obtain ⟨cell, c1, c2, c3⟩ := (hH.2.2.1 a ha).2.2 ei X ht hX
  have hXs : s.vm.findClass X = some cell.cls := by rw [hW.alike.findClass]; exact c2
  obtain ⟨vm', g1, g2⟩ := xm_go (s := s) (e := e) (f := F0 m pc ls st) (a := xa K a) (args := args) hpl c3 C.2.2.2.2.2.2.2.1 hXs ⟨x.1, x.2.1, x.2.2.1, x.2.2.2⟩ (tableOf rest) (by simp [covers, hx.1, hx.2.1]) hx.2.2.1 (xw G rfl hx.2.2.2 hW args)
    (pre.map fun q => (⟨q.1.1, q.1.2.1, q.1.2.2.1, q.1.2.2.2⟩, q.2)) ((T.setTop (F0 m pc ls st)).pushFrame (.throwing (xa K a))) X0.warmed c1 (fun q hq => by
      obtain ⟨r, hr, rfl⟩ := List.mem_map.mp hq
      obtain ⟨p1, p2, p3, p4, p5, p6⟩ := hp r hr
      obtain ⟨cX, t, w1, w2, w3⟩ := G.2.2.2.2.2 X hXm r.2 p5 p6
      cases c2.symm.trans w1
      exact ⟨by simp [covers, p1, p2], p3, xw G rfl p4 hW args, t, by rw [hW.alike.findClass]; exact w2, by rw [hW.alike.assignable]; exact w3⟩)
  have X1 := X0.noted g1
  obtain ⟨t, a1, b1⟩ := k p e R s m args below meth c T.heap locs cells slots ls z0 u0 C hH hz hu hl (T.setVm vm') rfl X1
  refine ⟨t, xm_caught (g := F0 m pc ls st) X0.here (fun Q E d acts => ?_) a1, b1⟩
  rw [W.findHandler_eq (meth := meth) (code := c) X0.method' X0.code, C.2.2.2.2.2.1, hh]
  have e1 : tableOf (pre.map (fun q => q.1) ++ x :: rest) = (pre.map fun q => ((⟨q.1.1, q.1.2.1, q.1.2.2.1, q.1.2.2.2⟩ : ExceptionTableEntry), q.2)).map (fun q => q.1) ++ ⟨x.1, x.2.1, x.2.2.1, x.2.2.2⟩ :: tableOf rest := by
    simp [tableOf]
  rw [e1]
  exact g2 Q E d acts
end XR
