section XR
variable {K : XK} {y : YT} {pc : Nat} {L : XL} {S : List Value} {M N : XM} {o : XO}
/-- the exception a lies over the frame at pc -/
def cT (K : XK) (y : YT) (pc : Nat) (L : XL) (a : Nat) (M : XM) (o : XO) (N : XM) : Prop :=
  ∀ (p : Program) (e : Env) (R : Room) (s : State) (m : MethodId) (args : Array Value) (below : List Frame) (meth : Method) (c : Code) (locs : List Loc) (cells slots : Nat) (ls : Array Slot) (st : List Value) (z0 u0 : Nat) (T : State),
    cC K y p e R s m meth c locs z0 u0 → xH K M T.heap → (cells + z0 = xz M ∧ xz M ≤ ZM) → (slots + u0 = xu M ∧ xu M ≤ UM) → xL K y ls L → Stand p (xl K) e R s m args below meth c T locs cells slots →
    ∃ t, Steps p.tables e below ((T.setTop (F0 m pc ls st)).pushFrame (.throwing (xa K a))) t ∧ xQ K below s z0 u0 o N t
/-- no handler of the method's own -/
theorem cT_out {a : Nat} (h : (yh y).all (fun q => !(decide (q.1 ≤ pc) && decide (pc < q.2.1))) = true) : cT K y pc L a M (.inr a) M := by
  intro p e R s m args below meth c locs cells slots ls st z0 u0 T C hH hz hu hl X
  have hlocks : meth.locks = false := C.2.2.2.2.1
  obtain ⟨h1, h2, h3, h4, h5⟩ := X.leaveThrown (xa K a) (g := F0 m pc ls st) rfl rfl rfl (fun x hx => by
    rw [C.2.2.2.2.2.1] at hx
    obtain ⟨q, hq, rfl⟩ := List.mem_map.mp hx
    have h' := List.all_eq_true.mp h q hq
    rw [Bool.not_eq_true'] at h'
    exact h')
  refine ⟨_, h1, h2, h3, hH, h4, ⟨by omega, by omega, hz.2, hu.2⟩, locs, ?_, C.2.2.2.2.2.2.2.2.2.2.2.2.2.2.2⟩
  rw [show xz M - z0 = cells by omega, show xu M - u0 = slots by omega]
  exact h5
/-- the instruction at pc calls y2 with A; S' is the stack ahead of it, S what stays -/
def xSite (K : XK) (y : YT) (pc : Nat) (y2 : YT) (A S' S : List Value) (M : XM) : Prop :=
  ∀ (p : Program) (e : Env) (R : Room) (s : State) (m : MethodId) (args : Array Value) (below : List Frame) (meth : Method) (c : Code) (locs : List Loc) (cells slots : Nat) (ls : Array Slot) (z0 u0 : Nat) (T : State),
    cC K y p e R s m meth c locs z0 u0 → xH K M T.heap → Stand p (xl K) e R s m args below meth c T locs cells slots →
    ∃ (vm₁ : Vm) (mk : MethodId) (ig : Instr), s.methodNamed? (ym y2) = some mk ∧ decode c.code pc = .ok (ig, 3) ∧ s.WarmedH vm₁ ∧ Stand p (xl K) e R s m args below meth c (T.setVm vm₁) locs cells slots ∧
      ∀ target, (∀ acts, Steps p.tables e below (doInvoke e ((T.setVm vm₁).setTop (F0 m pc ls (S.map (xv K)))) acts mk (A.map (xv K)).toArray).1 target) → Steps p.tables e below (T.setTop (F0 m pc ls (S'.map (xv K)))) target
theorem x_call (G : xG K) {y2 : YT} {A S' : List Value} {o1 : XO} {M1 : XM} (hs : xSite K y pc y2 A S' S M) (hM : Ct K y2 A M o1 M1) (hfr : yf y2 + 1 ≤ yf y) (hlo : (S.map fun v => v.category).sum + (yn y2 + 11) + yl y2 ≤ yl y) (hw2 : yw y2 ∈ lw_tbl) (hini : Cond.initialized (ym y2).cls ∈ lw_tbl)
    (hr : ∀ v, o1 = .inl v → cA K y (pc + 3) L (v.toList ++ S) M1 o N) (ht : ∀ a, o1 = .inr a → cT K y pc L a M1 o N) : cA K y pc L S' M o N := by
  intro p e R s m args below meth c H locs cells slots ls z0 u0 C hH hz hu hl
  intro T hT X
  subst hT
  have hW := C.2.2.2.2.2.2.2.2.1
  obtain ⟨vm₁, mk, ig, hn, hdg, hW₁, X₁, st⟩ := hs p e R s m args below meth c locs cells slots ls z0 u0 T C hH X
  have hWU : (xs K).WarmedH (T.setVm vm₁).vm := State.WarmedH.trans hW hW₁
  have hn₁ : (T.setVm vm₁).methodNamed? (ym y2) = some mk := X₁.named hn
  have hword := xw G (yw_word y2) hw2 hWU #[]
  obtain ⟨methY, cY, b1, b2, b3, b4, b5, b6, b7, b8⟩ := yw_spec hn₁ hword
  obtain ⟨kY, hkY, -⟩ := className_of_methodNamed hn₁
  have hinitY : kY.init = .initialized := Cond.initialized_spec (args := #[]) (findClass_of_methodNamed hn₁) hkY (xw G rfl hini hWU #[])
  have hcat : ((S.map (xv K)).map fun v => v.category).sum = (S.map fun v => v.category).sum := by
    congr 1
    simp [xv_cat]
  have hz0 := C.2.2.2.2.2.2.2.2.2.2.2.2.2.2.1
  have hzR := C.2.2.2.2.2.2.2.2.2.2.2.1
  have huR := C.2.2.2.2.2.2.2.2.2.2.2.2.1
  have hfR := C.2.2.2.2.2.2.2.2.2.1
  have hlR := C.2.2.2.2.2.2.2.2.2.2.1
  obtain ⟨oc, t, Lc, k1, n1, V, hq, ⟨hk1, hn1, hLc⟩, hVh, hVv, XV, sr, stt⟩ := xm_call (g := F0 m pc ls (S.map (xv K))) (a := (A.map (xv K)).toArray) X₁ hM rfl (hl.1.1.trans C.2.2.1.symm) hdg hn₁ b1 b2 hkY hinitY
    (by show yf y2 + 1 ≤ R.frames; omega) (by rw [hcat, b4]; show 2 * 0 + _ + (yn y2 + 11) + yl y2 ≤ R.locals; omega) (by show cells + (ZM - xz M) ≤ R.cells; omega) (by show slots + (UM - xu M) ≤ R.slots; omega)
    (atoms_intro fun w hw => by rw [List.mem_singleton.mp hw]; exact xw G (yw_word y2) hw2 hWU _) ⟨rfl, hWU, hH, hz.2, hu.2, by omega⟩
    (L0 := fun _ _ L k n => k = xz M1 - xz M ∧ n = xu M1 - xu M ∧ ∀ q ∈ L, xB K < q.base) (fun o t hq => by
      obtain ⟨-, -, q1, -, L, q2, q3⟩ := hq
      exact ⟨L, _, _, q1, q2, rfl, rfl, q3⟩)
  obtain ⟨ho, hH1, -, hm, -⟩ := hq
  have C' : cC K y p e R s m meth c (locs ++ Lc) z0 u0 := by
    refine ⟨C.1, C.2.1, C.2.2.1, C.2.2.2.1, C.2.2.2.2.1, C.2.2.2.2.2.1, C.2.2.2.2.2.2.1, C.2.2.2.2.2.2.2.1, C.2.2.2.2.2.2.2.2.1, C.2.2.2.2.2.2.2.2.2.1, C.2.2.2.2.2.2.2.2.2.2.1, C.2.2.2.2.2.2.2.2.2.2.2.1, C.2.2.2.2.2.2.2.2.2.2.2.2.1, C.2.2.2.2.2.2.2.2.2.2.2.2.2.1, C.2.2.2.2.2.2.2.2.2.2.2.2.2.2.1, fun q' hq' => ?_⟩
    rcases List.mem_append.mp hq' with h | h
    · exact C.2.2.2.2.2.2.2.2.2.2.2.2.2.2.2 q' h
    · exact hLc q' h
  have hz' : cells + k1 + z0 = xz M1 ∧ xz M1 ≤ ZM := by omega
  have hu' : slots + n1 + u0 = xu M1 ∧ xu M1 ≤ UM := by omega
  rw [← hVh] at hH1
  cases o1 with
  | inl v =>
    obtain ⟨t2, a1, b1⟩ := hr v rfl p e R s m args below meth c V.heap (locs ++ Lc) (cells + k1) (slots + n1) ls z0 u0 C' hH1 hz' hu' hl V rfl XV
    refine ⟨t2, st t2 fun acts => ?_, b1⟩
    rw [doInvoke_state]
    refine (sr _ ho).trans ?_
    have e1 : (Option.map (xv K) v).toList ++ S.map (xv K) = (v.toList ++ S).map (xv K) := by cases v <;> rfl
    show Steps p.tables e below (V.setTop (F0 m (pc + 3) ls ((Option.map (xv K) v).toList ++ S.map (xv K)))) t2
    rw [e1]
    exact a1
  | inr a =>
    obtain ⟨t2, a1, b1⟩ := ht a rfl p e R s m args below meth c (locs ++ Lc) (cells + k1) (slots + n1) ls (S.map (xv K)) z0 u0 V C' hH1 hz' hu' hl XV
    refine ⟨t2, st t2 fun acts => ?_, b1⟩
    rw [doInvoke_state]
    exact (stt _ ho).trans a1
/-! the sites -/
theorem xs_len {x : MethodName} {n : Nat} (h : (parseMethodDescriptor x.desc).map (fun d => d.parameters.length) = some n) {As : List Value} (hl : As.length = n) : ∀ sig, parseMethodDescriptor x.desc = some sig → As.length = sig.parameters.length := by
  intro sig hs
  rw [hs] at h
  rw [hl]
  exact (Option.some.inj h).symm
theorem xs_map (As : List Value) (K : XK) (f : Value → Value) : (As.reverse ++ S).map f = (As.map f).reverse ++ S.map f := by simp
theorem x_siteV (G : xG K) {y2 : YT} {As : List Value} {a ci index n : Nat} {q : String × List XF} (hd : decode (yb y) pc = .ok (.invokevirtual index, 3)) (hq : xcl[ci]? = some q) (hk : Cond.methodLink (ym y).cls index (ym y2) ∈ lw_tbl) (hi : Cond.instanceMethod (ym y2) ∈ lw_tbl) (hse : Cond.selects q.1 (ym y2) (ym y2) ∈ lw_tbl) (hw2 : yw y2 ∈ lw_tbl)
    (hx : (ym y2).cls ≠ "java/lang/invoke/MethodHandle" ∧ (ym y2).cls ≠ "java/lang/invoke/VarHandle") (hn : (parseMethodDescriptor (ym y2).desc).map (fun d => d.parameters.length) = some n) (hl : As.length = n) (ha : a < xz M) (ht : (xt M a).1 = 20 + ci) :
    xSite K y pc y2 (.ref a :: As) (As.reverse ++ .ref a :: S) S M := by
  intro p e R s m args below meth c locs cells slots ls z0 u0 T C hH X
  have hW := C.2.2.2.2.2.2.2.2.1
  obtain ⟨mk, methM, hnamed, hmethM, hstM, habM⟩ := Cond.instanceMethod_spec (xw G rfl hi hW args)
  obtain ⟨methM', cM, hmethM', -, -, -, -, -, -, hsigM⟩ := yw_spec hnamed (xw G (yw_word y2) hw2 hW args)
  cases hmethM.symm.trans hmethM'
  obtain ⟨c2, r2, m2, q1, q2, q3, q4, kP, hkP, hkPi⟩ := Cond.selects_spec (xw G rfl hse hW args)
  obtain ⟨cell, a1, a2, a3, -⟩ := (hH.2.2.1 a ha).2.1 ci q ht hq
  have hcls : s.vm.findClass q.1 = some cell.cls := by rw [hW.alike.findClass]; exact a2
  cases hcls.symm.trans q1
  cases (State.methodFound?_of_named hnamed hx).symm.trans q2
  cases hnamed.symm.trans q3
  have hselP : selectMethod e.platform s.vm cell.cls mk = .method mk := by rw [Launch.admits_selectMethod X.admits]; exact q4
  have hdg : decode c.code pc = .ok (.invokevirtual index, 3) := by rw [C.2.1]; exact hd
  obtain ⟨vm₁, X₁, hstep₁⟩ := X.invokevirtual C.1 C.2.2.2.2.2.2.2.1 (xw G rfl hk hW args) hnamed hmethM hstM hkP hkPi hx (a := xa K a) (cell := cell) a1
    (fun z h => by rw [a3] at h; cases h) hselP hmethM habM hkP hkPi (g := F0 m pc ls ((As.reverse ++ .ref a :: S).map (xv K))) rfl (argsL := As.map (xv K)) (rest := S.map (xv K)) (by rw [List.length_map]; exact xs_len hn hl _ hsigM) (by simp [xv]) hdg
  exact ⟨vm₁, mk, _, hnamed, hdg, X₁.warmed, X₁, fun target h => hstep₁ target h⟩
theorem x_siteS (G : xG K) {y2 : YT} {As : List Value} {index n : Nat} (hd : decode (yb y) pc = .ok (.invokestatic index, 3)) (hk : Cond.methodLink (ym y).cls index (ym y2) ∈ lw_tbl) (hi : Cond.static (ym y2) ∈ lw_tbl) (hini : Cond.initialized (ym y2).cls ∈ lw_tbl) (hw2 : yw y2 ∈ lw_tbl)
    (hx : (ym y2).cls ≠ "java/lang/invoke/MethodHandle" ∧ (ym y2).cls ≠ "java/lang/invoke/VarHandle") (hn : (parseMethodDescriptor (ym y2).desc).map (fun d => d.parameters.length) = some n) (hl : As.length = n) :
    xSite K y pc y2 As (As.reverse ++ S) S M := by
  intro p e R s m args below meth c locs cells slots ls z0 u0 T C hH X
  have hW := C.2.2.2.2.2.2.2.2.1
  obtain ⟨mk, hnamed⟩ := yw_named (xw G (yw_word y2) hw2 hW args)
  obtain ⟨methM, cM, hmethM, -, -, -, -, -, -, hsigM⟩ := yw_spec hnamed (xw G (yw_word y2) hw2 hW args)
  have hstatic : methM.isStatic = true := Cond.static_spec hnamed hmethM (xw G rfl hi hW args)
  obtain ⟨kP, hkP, -⟩ := className_of_methodNamed hnamed
  have hinitP : kP.init = .initialized := Cond.initialized_spec (findClass_of_methodNamed hnamed) hkP (xw G rfl hini hW args)
  have hdg : decode c.code pc = .ok (.invokestatic index, 3) := by rw [C.2.1]; exact hd
  obtain ⟨vm₁, X₁, hstep₁⟩ := X.invokestatic C.1 C.2.2.2.2.2.2.2.1 (xw G rfl hk hW args) hnamed hmethM hstatic hkP hinitP hx (g := F0 m pc ls ((As.reverse ++ S).map (xv K))) rfl (argsL := As.map (xv K)) (rest := S.map (xv K)) (by rw [List.length_map]; exact xs_len hn hl _ hsigM) (by simp) hdg
  exact ⟨vm₁, mk, _, hnamed, hdg, X₁.warmed, X₁, fun target h => hstep₁ target h⟩
theorem x_siteSN (G : xG K) {y2 : YT} {As : List Value} {index n : Nat} {host : String} (hd : decode (yb y) pc = .ok (.invokestatic index, 3)) (hk : Cond.methodLinkNest (ym y).cls index (ym y2) host ∈ lw_tbl) (hi : Cond.static (ym y2) ∈ lw_tbl) (hini : Cond.initialized (ym y2).cls ∈ lw_tbl) (hw2 : yw y2 ∈ lw_tbl)
    (hx : (ym y2).cls ≠ "java/lang/invoke/MethodHandle" ∧ (ym y2).cls ≠ "java/lang/invoke/VarHandle") (hn : (parseMethodDescriptor (ym y2).desc).map (fun d => d.parameters.length) = some n) (hl : As.length = n) :
    xSite K y pc y2 As (As.reverse ++ S) S M := by
  intro p e R s m args below meth c locs cells slots ls z0 u0 T C hH X
  have hW := C.2.2.2.2.2.2.2.2.1
  obtain ⟨mk, hnamed⟩ := yw_named (xw G (yw_word y2) hw2 hW args)
  obtain ⟨methM, cM, hmethM, -, -, -, -, -, -, hsigM⟩ := yw_spec hnamed (xw G (yw_word y2) hw2 hW args)
  have hstatic : methM.isStatic = true := Cond.static_spec hnamed hmethM (xw G rfl hi hW args)
  obtain ⟨kP, hkP, -⟩ := className_of_methodNamed hnamed
  have hinitP : kP.init = .initialized := Cond.initialized_spec (findClass_of_methodNamed hnamed) hkP (xw G rfl hini hW args)
  have hdg : decode c.code pc = .ok (.invokestatic index, 3) := by rw [C.2.1]; exact hd
  obtain ⟨vm₁, X₁, hstep₁⟩ := X.invokestaticNest C.1 C.2.2.2.2.2.2.2.1 (xwN G hk hW args) hnamed hmethM hstatic hkP hinitP hx (g := F0 m pc ls ((As.reverse ++ S).map (xv K))) rfl (argsL := As.map (xv K)) (rest := S.map (xv K)) (by rw [List.length_map]; exact xs_len hn hl _ hsigM) (by simp) hdg
  exact ⟨vm₁, mk, _, hnamed, hdg, X₁.warmed, X₁, fun target h => hstep₁ target h⟩
theorem x_siteI (G : xG K) {y2 : YT} {As : List Value} {a index n : Nat} (hd : decode (yb y) pc = .ok (.invokespecial index, 3)) (hy1 : (ym y2).name = "<init>") (hk : Cond.methodLink (ym y).cls index (ym y2) ∈ lw_tbl) (hi : Cond.instanceMethod (ym y2) ∈ lw_tbl) (hw2 : Cond.code (ym y2) (yb y2) (yn y2) none ∈ lw_tbl)
    (hx : (ym y2).cls ≠ "java/lang/invoke/MethodHandle" ∧ (ym y2).cls ≠ "java/lang/invoke/VarHandle") (hn : (parseMethodDescriptor (ym y2).desc).map (fun d => d.parameters.length) = some n) (hl : As.length = n) :
    xSite K y pc y2 (.ref a :: As) (As.reverse ++ .ref a :: S) S M := by
  intro p e R s m args below meth c locs cells slots ls z0 u0 T C hH X
  have hW := C.2.2.2.2.2.2.2.2.1
  have hpl : e.platform.magicAccessors = ({} : Platform).magicAccessors := by rw [X.admits.platform]
  have hdg : decode c.code pc = .ok (.invokespecial index, 3) := by rw [C.2.1]; exact hd
  obtain ⟨mk, methM, cM, kP, vm₁, hnamed, -, -, -, -, -, -, -, hW₁, hstep₁⟩ := Steps.initColdArgs (e := e) X.here C.1 X.warmed hpl C.2.2.2.2.2.2.2.1 hy1 hx (xw G rfl hk hW args) (xw G rfl hi hW args) (xw G rfl hw2 hW args) (f := F0 m pc ls ((As.reverse ++ .ref a :: S).map (xv K))) rfl (a := xa K a) (argsL := As.map (xv K)) (rest := S.map (xv K)) (fun sig hs => by rw [List.length_map]; exact xs_len hn hl _ hs) (by simp [xv]) hdg
  exact ⟨vm₁, mk, _, hnamed, hdg, hW₁, X.noted hW₁, fun target h => hstep₁ target h⟩
theorem x_siteIN (G : xG K) {y2 : YT} {As : List Value} {a index n : Nat} {host : String} (hd : decode (yb y) pc = .ok (.invokespecial index, 3)) (hy1 : (ym y2).name = "<init>") (hk : Cond.methodLinkNest (ym y).cls index (ym y2) host ∈ lw_tbl) (hi : Cond.instanceMethod (ym y2) ∈ lw_tbl) (hw2 : Cond.code (ym y2) (yb y2) (yn y2) none ∈ lw_tbl)
    (hx : (ym y2).cls ≠ "java/lang/invoke/MethodHandle" ∧ (ym y2).cls ≠ "java/lang/invoke/VarHandle") (hn : (parseMethodDescriptor (ym y2).desc).map (fun d => d.parameters.length) = some n) (hl : As.length = n) :
    xSite K y pc y2 (.ref a :: As) (As.reverse ++ .ref a :: S) S M := by
  intro p e R s m args below meth c locs cells slots ls z0 u0 T C hH X
  have hW := C.2.2.2.2.2.2.2.2.1
  have hpl : e.platform.magicAccessors = ({} : Platform).magicAccessors := by rw [X.admits.platform]
  have hdg : decode c.code pc = .ok (.invokespecial index, 3) := by rw [C.2.1]; exact hd
  obtain ⟨mk, methM, cM, kP, vm₁, hnamed, -, -, -, -, -, -, -, hW₁, hstep₁⟩ := Steps.initColdArgsNest (e := e) X.here C.1 X.warmed hpl C.2.2.2.2.2.2.2.1 hy1 hx (xwN G hk hW args) (xw G rfl hi hW args) (xw G rfl hw2 hW args) (f := F0 m pc ls ((As.reverse ++ .ref a :: S).map (xv K))) rfl (a := xa K a) (argsL := As.map (xv K)) (rest := S.map (xv K)) (fun sig hs => by rw [List.length_map]; exact xs_len hn hl _ hs) (by simp [xv]) hdg
  exact ⟨vm₁, mk, _, hnamed, hdg, hW₁, X.noted hW₁, fun target h => hstep₁ target h⟩
end XR
