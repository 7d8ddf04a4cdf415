/-! an abstract memory: cells 0 (the script), 1, 2 ..: how many; how many slots; what each is; its ints; its references; its longs -/
abbrev XM : Type := Nat × Nat × (Nat → Nat × Nat) × (Nat → Nat → Int32) × (Nat → Nat → Option Nat) × (Nat → Nat → Int64)
def xz (M : XM) : Nat := M.1
def xu (M : XM) : Nat := M.2.1
def xt (M : XM) : Nat → Nat × Nat := M.2.2.1
def xi (M : XM) : Nat → Nat → Int32 := M.2.2.2.1
def xr (M : XM) : Nat → Nat → Option Nat := M.2.2.2.2.1
def xj (M : XM) : Nat → Nat → Int64 := M.2.2.2.2.2
def xpi (M : XM) (a i : Nat) (v : Int32) : XM := (xz M, xu M, xt M, (fun b j => if b = a ∧ j = i then v else xi M b j), xr M, xj M)
def xpr (M : XM) (a i : Nat) (r : Nat) : XM := (xz M, xu M, xt M, xi M, (fun b j => if b = a ∧ j = i then some r else xr M b j), xj M)
def xpj (M : XM) (a i : Nat) (v : Int64) : XM := (xz M, xu M, xt M, xi M, xr M, (fun b j => if b = a ∧ j = i then v else xj M b j))
def xnw (M : XM) (k n u : Nat) : XM := (xz M + 1, xu M + u, (fun b => if b = xz M then (k, n) else xt M b), (fun b j => if b = xz M then 0 else xi M b j), (fun b j => if b = xz M then none else xr M b j), (fun b j => if b = xz M then 0 else xj M b j))
/-- the launch, the law's start, its last cell, the script's cell -/
abbrev XK : Type := Launch × State × Nat × Nat
abbrev xl (K : XK) : Launch := K.1
abbrev xs (K : XK) : State := K.2.1
abbrev xB (K : XK) : Nat := K.2.2.1
abbrev xS (K : XK) : Nat := K.2.2.2
def xa (K : XK) (a : Nat) : Nat := if a = 0 then xS K else xB K + a
def xv (K : XK) (v : Value) : Value := match v with
  | .ref a => .ref (xa K a)
  | .int x => .int x
  | .long x => .long x
  | .float x => .float x
  | .double x => .double x
  | .null => .null
  | .retAddr x => .retAddr x
theorem xv_cat (K : XK) (v : Value) : (xv K v).category = v.category := by cases v <;> rfl
/-- a method: name, bytes, locals, answer, handlers, frames and words that it wants -/
abbrev YT : Type := MethodName × ByteArray × Nat × Option FieldType × List (Nat × Nat × Nat × Nat) × Nat × Nat
abbrev ym (y : YT) : MethodName := y.1
abbrev yb (y : YT) : ByteArray := y.2.1
abbrev yn (y : YT) : Nat := y.2.2.1
abbrev yr (y : YT) : Option FieldType := y.2.2.2.1
abbrev yh (y : YT) : List (Nat × Nat × Nat × Nat) := y.2.2.2.2.1
abbrev yf (y : YT) : Nat := y.2.2.2.2.2.1
abbrev yl (y : YT) : Nat := y.2.2.2.2.2.2
def yw (y : YT) : Cond := match yh y with
  | [] => .code (ym y) (yb y) (yn y) (yr y)
  | h => .codeWith (ym y) (yb y) (yn y) (yr y) h
theorem yw_spec {y : YT} {args : Array Value} {s : State} {m : MethodId} (hn : s.methodNamed? (ym y) = some m) (h : (yw y).before args s = true) :
    ∃ meth c, s.vm.method? m = some meth ∧ meth.code = some c ∧ c.code = yb y ∧ c.maxLocals = yn y ∧ meth.sig.returnType = yr y ∧ meth.locks = false ∧ c.exceptionTable.toList = tableOf (yh y) ∧ parseMethodDescriptor (ym y).desc = some meth.sig := by
  unfold yw at h
  split at h
  next e =>
    obtain ⟨meth, c, h1, h2, h3, h4, h5, h6, h7, h8⟩ := Cond.code_spec hn h
    have h0 : c.exceptionTable.size = 0 := by simpa [Array.isEmpty] using h7
    have h9 : c.exceptionTable.toList = [] := List.eq_nil_of_length_eq_zero (by simpa using h0)
    exact ⟨meth, c, h1, h2, h3, h4, h5, h6, by rw [h9, e]; rfl, h8⟩
  next h0 e =>
    obtain ⟨m', meth, c, g0, h1, h2, h3, h4, h5, h6, h7, h8⟩ := Cond.codeWith_spec h
    cases hn.symm.trans g0
    exact ⟨meth, c, h1, h2, h3, h4, h6, h7, by rw [← h5, table_eq], h8⟩
theorem yw_named {y : YT} {args : Array Value} {s : State} (h : (yw y).before args s = true) : ∃ m, s.methodNamed? (ym y) = some m := by
  unfold yw at h
  split at h
  next e => exact Cond.code_named h
  next h0 e =>
    obtain ⟨m', meth, c, g0, -⟩ := Cond.codeWith_spec h
    exact ⟨m', g0⟩
theorem yw_word (y : YT) : ((yw y).onTables && (yw y).keeps) = true := by
  unfold yw
  split <;> first | rfl | simp [Cond.onTables, Cond.keeps, Cond.steady]
/-! ### a call by contract, whichever way it ends -/
theorem xm_call {l : Launch} {R : Room} {p : Program} {e : Env} {below : List Frame} {s : State} {sargs : Array Value} {m : MethodId} {meth : Method} {c : Code} {U : State} {locs : List Loc} {cells slots : Nat}
    {y : MethodName} {S : Spec} {P : Array Value → State → Prop} {Q : Array Value → State → Outcome → State → Prop} {a : Array Value} {g : JFrame} {mk : MethodId} {methY : Method} {cY : Code} {kY : Class} {ig : Instr} {len : Nat}
    (X : Stand p l e R s m sargs below meth c U locs cells slots) (hM : MetFree l y S P (fun _ _ _ _ _ => True) Q)
    (hg : g.method = m) (hsize : g.locals.size = c.maxLocals) (hdg : decode c.code g.pc = .ok (ig, len))
    (hn : U.methodNamed? y = some mk) (hmY : U.vm.method? mk = some methY) (hcY : methY.code = some cY) (hkY : U.vm.classes[mk.cls]? = some kY) (hinit : kY.init = .initialized)
    (hframes : S.room.frames + 1 ≤ R.frames) (hlocals : 2 * g.monitorRoom + (g.stack.map fun v => v.category).sum + (cY.maxLocals + 11) + S.room.locals ≤ R.locals)
    (hcells : cells + S.room.cells ≤ R.cells) (hslots : slots + S.room.slots ≤ R.slots)
    (hpre : S.pre.before a U = true) (hP : P a (U.calling g mk a)) {L0 : Outcome → State → List Loc → Nat → Nat → Prop}
    (hQ : ∀ o t, Q a (U.calling g mk a) o t → ∃ L k n, (U.calling g mk a).WarmedH t.vm ∧ (U.calling g mk a).sameButNew ({ t with vm := (U.calling g mk a).vm } : State) L k n ∧ L0 o t L k n) :
    ∃ (o : Outcome) (t : State) (L : List Loc) (k n : Nat) (V : State), Q a (U.calling g mk a) o t ∧ L0 o t L k n ∧ V.heap = t.heap ∧ V.vm = t.vm ∧ Stand p l e R s m sargs below meth c V (locs ++ L) (cells + k) (slots + n) ∧
      (∀ v, o = .returned v → Steps p.tables e below (doInvoke e (U.setTop g) [] mk a).1 (V.setTop { g with pc := g.pc + len, stack := v.toList ++ g.stack })) ∧
      (∀ x, o = .threw x → Steps p.tables e below (doInvoke e (U.setTop g) [] mk a).1 ((V.setTop g).pushFrame (.throwing x))) := by
  have h : At U g.method c below := by rw [hg]; exact X.here
  have happ : S.appliesLoose y e.platform (U.calling g mk a) = true :=
    Spec.appliesLoose_calling (g := g) h hdg hn hkY hinit (X.room_calling (g := g) (R' := S.room) hsize hmY hcY hframes hlocals hcells hslots) hpre
  obtain ⟨mid, hmid⟩ := h.above
  have hfr : (U.setTop g).frames = (.java g :: mid) ++ below := by rw [State.frames_setTop' g h.top, hmid]; rfl
  obtain ⟨o, s₂, hsteps, -, hend, hq⟩ := Steps.callFree hM p X.admits X.cas X.clock (acts := []) hfr happ hP trivial
  have hq' : Q a (U.calling g mk a) o s₂ := hq
  obtain ⟨L, k, n, hW₂, ⟨e2, q2, q3, q4, q5, q6⟩, hE⟩ := hQ _ _ hq'
  rw [State.frames_setTop' g h.top] at hend
  have e3 : s₂ = ({ (U.calling g mk a).setFrames s₂.frames with heap := s₂.heap, slotsUsed := s₂.slotsUsed } : State).setVm s₂.vm := by
    have : s₂ = ({ s₂ with vm := (U.calling g mk a).vm } : State).setVm s₂.vm := rfl
    rw [e2] at this
    exact this
  have hW' : U.WarmedH s₂.vm := hW₂
  obtain ⟨g₀, hg0⟩ := Option.isSome_iff_exists.mp h.top
  obtain ⟨r, hr⟩ := State.topJava?_eq_some.mp hg0
  have hr' : (({ U with heap := s₂.heap, slotsUsed := s₂.slotsUsed } : State).setVm s₂.vm).frames = .java g₀ :: r := hr
  have hsame : U.sameButNew ({ U with heap := s₂.heap, slotsUsed := s₂.slotsUsed } : State) L k n := by
    refine ⟨?_, q2, q3, q4, q5, q6⟩
    obtain ⟨t, ht, -⟩ := State.frames_cons hr
    show ({ U with heap := s₂.heap, slotsUsed := s₂.slotsUsed } : State) = { U.setFrames U.frames with heap := s₂.heap, slotsUsed := s₂.slotsUsed }
    rw [State.setFrames_self ht]
  subst hg
  refine ⟨o, s₂, L, k, n, ({ U with heap := s₂.heap, slotsUsed := s₂.slotsUsed } : State).setVm s₂.vm, hq', hE, rfl, rfl,
    ⟨X.admits, X.cas, X.clock, X.frames, X.room, X.hears, X.method, X.code, (X.here.setHeapUsed s₂.heap s₂.slotsUsed).setVm hW'.alike, X.tail, State.WarmedH.trans X.warmed hW', X.limits, X.bytes, X.same.trans (hsame.setVm s.vm)⟩, ?_, ?_⟩
  · rintro v rfl
    obtain ⟨c₂, i₂, len₂, hc₂, hd₂, hf₂⟩ := hend
    have hcc : c₂ = c := by
      have h1 : s₂.code? g.method = U.code? g.method := by
        rw [State.code?_eq, State.code?_eq, hW'.alike.method?]
      exact Option.some.inj (hc₂.symm.trans (h1.trans h.code))
    subst hcc
    have hlen : len₂ = len := by rw [hdg] at hd₂; cases hd₂; rfl
    subst hlen
    have hs₂ : s₂ = (({ U with heap := s₂.heap, slotsUsed := s₂.slotsUsed } : State).setVm s₂.vm).setTop { g with pc := g.pc + len₂, stack := v.toList ++ g.stack } := by
      refine e3.trans ?_
      rw [hf₂, State.calling_eq h.top, State.setFrames_setFrames, State.setTop_of_frames _ hr', hr]
      rfl
    rw [← hs₂]
    exact hsteps
  · rintro x rfl
    have hf₂ : s₂.frames = .throwing x :: (.java g :: U.frames.tail) := hend
    have hs₂ : s₂ = ((({ U with heap := s₂.heap, slotsUsed := s₂.slotsUsed } : State).setVm s₂.vm).setTop g).pushFrame (.throwing x) := by
      refine e3.trans ?_
      rw [hf₂, State.calling_eq h.top, State.setFrames_setFrames, State.pushFrame, State.frames_setTop _ hr', State.setTop_of_frames _ hr', State.setFrames_setFrames, hr]
      rfl
    rw [← hs₂]
    exact hsteps
