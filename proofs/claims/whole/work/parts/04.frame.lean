abbrev XO : Type := Option Value ⊕ Nat
def xo (K : XK) (o : XO) : Outcome := match o with
  | .inl v => .returned (v.map (xv K))
  | .inr a => .threw (xa K a)
abbrev XL : Type := List (Nat × Value)
def xLm (K : XK) (L : XL) : XL := L.map fun q => (q.1, xv K q.2)
def xL (K : XK) (y : YT) (ls : Array Slot) (L : XL) : Prop := lv_has ls (yn y) (xLm K L) ∧ ∀ q ∈ L, q.2.category = 1
/-- the invocation -/
def cC (K : XK) (y : YT) (p : Program) (e : Env) (R : Room) (s : State) (m : MethodId) (meth : Method) (c : Code) (locs : List Loc) (z0 u0 : Nat) : Prop :=
  p.tables.exec = Jvm.exec ∧ c.code = yb y ∧ c.maxLocals = yn y ∧ meth.sig.returnType = yr y ∧ meth.locks = false ∧ c.exceptionTable.toList = tableOf (yh y) ∧ meth.name = (ym y).name ∧ s.vm.findClass (ym y).cls = some m.cls ∧ (xs K).WarmedH s.vm ∧
    yf y ≤ R.frames ∧ yl y ≤ R.locals ∧ z0 + R.cells = ZM ∧ u0 + R.slots = UM ∧ s.heap.size = xB K + z0 ∧ z0 ≠ 0 ∧ ∀ q ∈ locs, xB K < q.base
/-- the invocation's end -/
def xQ (K : XK) (below : List Frame) (s : State) (z0 u0 : Nat) (o : XO) (N : XM) : State → Prop := fun t =>
  t.status = .running ∧ Ended t below (xo K o) ∧ xH K N t.heap ∧ s.WarmedH t.vm ∧ (z0 ≤ xz N ∧ u0 ≤ xu N ∧ xz N ≤ ZM ∧ xu N ≤ UM) ∧ ∃ L, s.sameButNew ({ t with vm := s.vm } : State) L (xz N - z0) (xu N - u0) ∧ ∀ q ∈ L, xB K < q.base
/-- from the frame at pc with these locals, operands and this memory the method ends so, with that memory -/
def cA (K : XK) (y : YT) (pc : Nat) (L : XL) (S : List Value) (M : XM) (o : XO) (N : XM) : Prop :=
  ∀ (p : Program) (e : Env) (R : Room) (s : State) (m : MethodId) (args : Array Value) (below : List Frame) (meth : Method) (c : Code) (H : Heap) (locs : List Loc) (cells slots : Nat) (ls : Array Slot) (z0 u0 : Nat),
    cC K y p e R s m meth c locs z0 u0 → xH K M H → (cells + z0 = xz M ∧ xz M ≤ ZM) → (slots + u0 = xu M ∧ xu M ≤ UM) → xL K y ls L →
    W p (xl K) e R s m args below meth c H locs cells slots (xQ K below s z0 u0 o N) (F0 m pc ls (S.map (xv K)))
def xPc (K : XK) (A : List Value) (M : XM) : Array Value → State → Prop := fun a s => a = (A.map (xv K)).toArray ∧ (xs K).WarmedH s.vm ∧ xH K M s.heap ∧ xz M ≤ ZM ∧ xu M ≤ UM ∧ xz M ≠ 0
def xQc (K : XK) (M : XM) (o : XO) (N : XM) : Array Value → State → Outcome → State → Prop := fun _ s oc t =>
  oc = xo K o ∧ xH K N t.heap ∧ s.WarmedH t.vm ∧ (xz M ≤ xz N ∧ xu M ≤ xu N ∧ xz N ≤ ZM ∧ xu N ≤ UM) ∧ ∃ L, s.sameButNew ({ t with vm := s.vm } : State) L (xz N - xz M) (xu N - xu M) ∧ ∀ q ∈ L, xB K < q.base
def xRoom (y : YT) (M : XM) : Room := { frames := yf y, cells := ZM - xz M, slots := UM - xu M, locals := yl y }
/-- the method's contract -/
def Ct (K : XK) (y : YT) (A : List Value) (M : XM) (o : XO) (N : XM) : Prop :=
  MetFree (xl K) (ym y) (headSpec [yw y] (xRoom y M)) (xPc K A M) (fun _ _ _ _ _ => True) (xQc K M o N)
theorem ct_of {K : XK} {y : YT} {A : List Value} {M N : XM} {o : XO} (hy : plainName (ym y).cls = true) (hcat : ∀ v ∈ A, v.category = 1) (hn : A.length ≤ yn y) (k : cA K y 0 (lv_args 0 A) [] M o N) : Ct K y A M o N := by
  refine MetFree.of_bodyS (code := yb y) (maxLocals := yn y) (ret := yr y) hy ?_ ?_
  · intro args s m h hn
    obtain ⟨meth, c, h1, h2, h3, h4, h5, h6, -, -⟩ := yw_spec hn (atoms_spec (ws := [yw y]) h _ List.mem_cons_self)
    exact ⟨meth, c, h1, h2, h3, h4, h5, h6⟩
  · intro p e s m args below meth c s₁ B hml hP _
    obtain ⟨rfl, hW, hH, hz, hu, h0⟩ := hP
    have hword := atoms_spec (ws := [yw y]) B.pre _ List.mem_cons_self
    obtain ⟨meth', c', h1, h2, h3, h4, h5, h6, h7, h8⟩ := yw_spec B.named hword
    cases B.method.symm.trans h1
    cases (Stand.of_body B).code.symm.trans h2
    have hname : meth.name = (ym y).name := (name_of_methodNamed B.named B.method).1
    have hh0 : s₁.heap = s.heap := by rw [B.state]; rfl
    have hlen : ∀ l : List Value, (∀ v ∈ l, v.category = 1) → (lg_sl (l.map (xv K))).length = l.length := by
      intro l
      induction l with
      | nil => intro _; rfl
      | cons v t ih =>
        intro hv
        have hc : ¬ (xv K v).category = 2 := by rw [xv_cat, hv v List.mem_cons_self]; decide
        simp only [List.map_cons, lg_sl, List.flatMap_cons, if_neg hc, List.length_append, List.length_cons, List.length_nil]
        have := ih (fun w hw => hv w (List.mem_cons_of_mem _ hw))
        simp only [lg_sl] at this
        omega
    have hargs : ∀ (l : List Value) (i : Nat), lv_args i (l.map (xv K)) = xLm K (lv_args i l) := by
      intro l
      induction l with
      | nil => intro i; rfl
      | cons v t ih =>
        intro i
        simp only [List.map_cons, lv_args, xv_cat, ih, xLm, List.map_cons]
    have hcats : ∀ (l : List Value) (i : Nat), (∀ v ∈ l, v.category = 1) → ∀ q ∈ lv_args i l, q.2.category = 1 := by
      intro l
      induction l with
      | nil => intro i _ q hq; cases hq
      | cons v t ih =>
        intro i hv q hq
        rcases List.mem_cons.mp hq with rfl | hq
        · exact hv v List.mem_cons_self
        · exact ih _ (fun w hw => hv w (List.mem_cons_of_mem _ hw)) q hq
    have hl := lv_entry (A.map (xv K)) (n := yn y) (by rw [hlen A hcat]; exact hn)
    rw [hargs] at hl
    have K0 := k p e (headSpec [yw y] (xRoom y M)).room s m (A.map (xv K)).toArray below meth c s₁.heap [] 0 0 _ (xz M) (xu M)
      ⟨B.exec, B.bytes, hml, B.returns, B.notSynchronized, h7, hname, findClass_of_methodNamed B.named, hW, Nat.le_refl _, Nat.le_refl _, Nat.add_sub_cancel' hz, Nat.add_sub_cancel' hu, hH.1, h0, fun q hq => by cases hq⟩
      (by rw [hh0]; exact hH) ⟨Nat.zero_add _, hz⟩ ⟨Nat.zero_add _, hu⟩ ⟨hl, hcats A 0 hcat⟩
    obtain ⟨t, a1, b1, b2, b3, b4, b5⟩ := K0 s₁ rfl (Stand.of_body B)
    refine ⟨t, xo K o, ?_, b1, b2, rfl, b3, b4, b5⟩
    rw [lg_entry_eq]
    exact a1
section XR
variable {K : XK} {y : YT} {pc : Nat} {L : XL} {S : List Value} {M N : XM} {o : XO}
theorem xL_at {ls : Array Slot} (h : xL K y ls L) (k : Nat) {i : Nat} {v : Value} (hk : L[k]? = some (i, v)) : ls[i]? = some (.val (xv K v)) :=
  lv_at h.1 k (v := xv K v) (by simp [xLm, hk])
def xset : XL → Nat → Value → XL
  | [], i, v => [(i, v)]
  | (j, w) :: t, i, v => bif Nat.blt i j then (i, v) :: (j, w) :: t else bif Nat.beq i j then (i, v) :: t else (j, w) :: xset t i v
theorem xset_mem : ∀ (L : XL) (i : Nat) (v : Value) (q : Nat × Value), q ∈ xset L i v → q = (i, v) ∨ q ∈ L
  | [], i, v, q, h => by
    left
    simpa [xset] using h
  | (j, w) :: t, i, v, q, h => by
    unfold xset at h
    cases h1 : Nat.blt i j with
    | true =>
      simp only [h1, cond_true, List.mem_cons] at h
      rcases h with h | h | h
      · exact Or.inl h
      · exact Or.inr (by rw [h]; exact List.mem_cons_self)
      · exact Or.inr (List.mem_cons_of_mem _ h)
    | false =>
      cases h2 : Nat.beq i j with
      | true =>
        simp only [h1, h2, cond_true, cond_false, List.mem_cons] at h
        rcases h with h | h
        · exact Or.inl h
        · exact Or.inr (List.mem_cons_of_mem _ h)
      | false =>
        simp only [h1, h2, cond_false, List.mem_cons] at h
        rcases h with h | h
        · exact Or.inr (by rw [h]; exact List.mem_cons_self)
        · rcases xset_mem t i v q h with h | h
          · exact Or.inl h
          · exact Or.inr (List.mem_cons_of_mem _ h)
/-- the listed locals, less the one that is stored -/
def xdrop (L : XL) (i : Nat) : XL := L.filter fun q => !(Nat.beq q.1 i)
theorem xL_set {ls ls' : Array Slot} {i : Nat} {v : Value} {L' : XL} (h : xL K y ls L) (hc : v.category = 1) (hL : xset (xdrop L i) i v = L')
    (h' : lv_has ls' (yn y) ((i, xv K v) :: (xLm K L).filter (fun q => !(q.1 == i) && !(q.1 + 1 == i && q.2.category == 2)))) : xL K y ls' L' := by
  subst hL
  refine ⟨⟨h'.1, h'.2.1, fun q hq => ?_⟩, fun q hq => ?_⟩
  · obtain ⟨r, hr, rfl⟩ := List.mem_map.mp hq
    rcases xset_mem _ _ _ _ hr with rfl | hr
    · exact h'.2.2 _ List.mem_cons_self
    · obtain ⟨hr1, hr2⟩ := List.mem_filter.mp hr
      have hne : ¬ r.1 = i := fun e => by rw [e] at hr2; simp at hr2
      refine h'.2.2 (r.1, xv K r.2) (List.mem_cons_of_mem _ (List.mem_filter.mpr ⟨List.mem_map.mpr ⟨r, hr1, rfl⟩, ?_⟩))
      have hc1 : (xv K r.2).category = 1 := by rw [xv_cat]; exact h.2 r hr1
      simp [hne, hc1]
  · rcases xset_mem _ _ _ _ hq with rfl | hr
    · exact hc
    · exact h.2 q (List.mem_filter.mp hr).1
/-- fewer locals -/
theorem x_weak {L' : XL} (ks : List Nat) (hL : lv_pick L ks = L') (k : cA K y pc L' S M o N) : cA K y pc L S M o N := by
  intro p e R s m args below meth c H locs cells slots ls z0 u0 C hH hz hu hl
  refine k p e R s m args below meth c H locs cells slots ls z0 u0 C hH hz hu ⟨⟨hl.1.1, hl.1.2.1, fun q hq => ?_⟩, fun q hq => ?_⟩
  · obtain ⟨r, hr, rfl⟩ := List.mem_map.mp hq
    rw [← hL] at hr
    obtain ⟨k0, -, hk⟩ := List.mem_filterMap.mp hr
    exact hl.1.2.2 _ (List.mem_map.mpr ⟨r, List.mem_of_getElem? hk, rfl⟩)
  · rw [← hL] at hq
    obtain ⟨k0, -, hk⟩ := List.mem_filterMap.mp hq
    exact hl.2 q (List.mem_of_getElem? hk)
theorem x_iconst {n : Int} {v : Int32} (hd : decode (yb y) pc = .ok (.iconst n, 1)) (hv : Int32.ofInt n = v) (k : cA K y (pc + 1) L (.int v :: S) M o N) : cA K y pc L S M o N := by
  intro p e R s m args below meth c H locs cells slots ls z0 u0 C hH hz hu hl
  exact lv_iconst C.1 C.2.1 hd hv (k p e R s m args below meth c H locs cells slots ls z0 u0 C hH hz hu hl)
theorem x_bipush {n : Int} {v : Int32} (hd : decode (yb y) pc = .ok (.bipush n, 2)) (hv : (Int8.ofInt n).toInt32 = v) (k : cA K y (pc + 2) L (.int v :: S) M o N) : cA K y pc L S M o N := by
  intro p e R s m args below meth c H locs cells slots ls z0 u0 C hH hz hu hl
  exact lv_bipush C.1 C.2.1 hd hv (k p e R s m args below meth c H locs cells slots ls z0 u0 C hH hz hu hl)
theorem x_sipush {n : Int} {v : Int32} (hd : decode (yb y) pc = .ok (.sipush n, 3)) (hv : (Int16.ofInt n).toInt32 = v) (k : cA K y (pc + 3) L (.int v :: S) M o N) : cA K y pc L S M o N := by
  intro p e R s m args below meth c H locs cells slots ls z0 u0 C hH hz hu hl
  exact lv_sipush C.1 C.2.1 hd hv (k p e R s m args below meth c H locs cells slots ls z0 u0 C hH hz hu hl)
theorem x_iload_n {j : Fin 4} {i : Nat} {x : Int32} (hd : decode (yb y) pc = .ok (.iload_n j, 1)) (hi : (j : Nat) = i) (n : Nat) (hk : L[n]? = some (i, .int x)) (k : cA K y (pc + 1) L (.int x :: S) M o N) : cA K y pc L S M o N := by
  intro p e R s m args below meth c H locs cells slots ls z0 u0 C hH hz hu hl
  exact lv_iload_n C.1 C.2.1 hd hi (xL_at hl n hk) (k p e R s m args below meth c H locs cells slots ls z0 u0 C hH hz hu hl)
theorem x_iload {i : Nat} {x : Int32} (hd : decode (yb y) pc = .ok (.iload i, 2)) (n : Nat) (hk : L[n]? = some (i, .int x)) (k : cA K y (pc + 2) L (.int x :: S) M o N) : cA K y pc L S M o N := by
  intro p e R s m args below meth c H locs cells slots ls z0 u0 C hH hz hu hl
  exact lv_iload C.1 C.2.1 hd (xL_at hl n hk) (k p e R s m args below meth c H locs cells slots ls z0 u0 C hH hz hu hl)
theorem x_aload_n {j : Fin 4} {i : Nat} {a : Nat} (hd : decode (yb y) pc = .ok (.aload_n j, 1)) (hi : (j : Nat) = i) (n : Nat) (hk : L[n]? = some (i, .ref a)) (k : cA K y (pc + 1) L (.ref a :: S) M o N) : cA K y pc L S M o N := by
  intro p e R s m args below meth c H locs cells slots ls z0 u0 C hH hz hu hl
  exact lv_aload_n C.1 C.2.1 hd hi (xL_at hl n hk) (k p e R s m args below meth c H locs cells slots ls z0 u0 C hH hz hu hl)
theorem x_aload {i : Nat} {a : Nat} (hd : decode (yb y) pc = .ok (.aload i, 2)) (n : Nat) (hk : L[n]? = some (i, .ref a)) (k : cA K y (pc + 2) L (.ref a :: S) M o N) : cA K y pc L S M o N := by
  intro p e R s m args below meth c H locs cells slots ls z0 u0 C hH hz hu hl
  exact lv_aload C.1 C.2.1 hd (xL_at hl n hk) (k p e R s m args below meth c H locs cells slots ls z0 u0 C hH hz hu hl)
theorem x_istore_n {j : Fin 4} {i : Nat} {x : Int32} {L' : XL} (hd : decode (yb y) pc = .ok (.istore_n j, 1)) (hi : (j : Nat) = i) (hn : i < yn y) (hL : xset (xdrop L i) i (.int x) = L') (k : cA K y (pc + 1) L' S M o N) : cA K y pc L (.int x :: S) M o N := by
  intro p e R s m args below meth c H locs cells slots ls z0 u0 C hH hz hu hl
  exact lv_istore_n C.1 C.2.1 hd hi hl.1 hn rfl fun ls' h' => k p e R s m args below meth c H locs cells slots ls' z0 u0 C hH hz hu (xL_set (v := .int x) hl rfl hL h')
theorem x_istore {i : Nat} {x : Int32} {L' : XL} (hd : decode (yb y) pc = .ok (.istore i, 2)) (hn : i < yn y) (hL : xset (xdrop L i) i (.int x) = L') (k : cA K y (pc + 2) L' S M o N) : cA K y pc L (.int x :: S) M o N := by
  intro p e R s m args below meth c H locs cells slots ls z0 u0 C hH hz hu hl
  exact lv_istore C.1 C.2.1 hd hl.1 hn rfl fun ls' h' => k p e R s m args below meth c H locs cells slots ls' z0 u0 C hH hz hu (xL_set (v := .int x) hl rfl hL h')
theorem x_astore_n {j : Fin 4} {i : Nat} {a : Nat} {L' : XL} (hd : decode (yb y) pc = .ok (.astore_n j, 1)) (hi : (j : Nat) = i) (hn : i < yn y) (hL : xset (xdrop L i) i (.ref a) = L') (k : cA K y (pc + 1) L' S M o N) : cA K y pc L (.ref a :: S) M o N := by
  intro p e R s m args below meth c H locs cells slots ls z0 u0 C hH hz hu hl
  exact lv_astore_n C.1 C.2.1 hd hi hl.1 hn rfl fun ls' h' => k p e R s m args below meth c H locs cells slots ls' z0 u0 C hH hz hu (xL_set (v := .ref a) hl rfl hL h')
theorem x_astore {i : Nat} {a : Nat} {L' : XL} (hd : decode (yb y) pc = .ok (.astore i, 2)) (hn : i < yn y) (hL : xset (xdrop L i) i (.ref a) = L') (k : cA K y (pc + 2) L' S M o N) : cA K y pc L (.ref a :: S) M o N := by
  intro p e R s m args below meth c H locs cells slots ls z0 u0 C hH hz hu hl
  exact lv_astore C.1 C.2.1 hd hl.1 hn rfl fun ls' h' => k p e R s m args below meth c H locs cells slots ls' z0 u0 C hH hz hu (xL_set (v := .ref a) hl rfl hL h')
theorem x_iinc {i n : Nat} {d : Int} {x : Int32} {L' : XL} (hd : decode (yb y) pc = .ok (.iinc i d, 3)) (hn : i < yn y) (hk : L[n]? = some (i, .int x)) (hL : xset (xdrop L i) i (.int (x + Int32.ofInt d)) = L') (k : cA K y (pc + 3) L' S M o N) : cA K y pc L S M o N := by
  intro p e R s m args below meth c H locs cells slots ls z0 u0 C hH hz hu hl
  exact lv_iinc (k := n) C.1 C.2.1 hd hl.1 (x := x) (by simp [xLm, hk, xv]) rfl hn rfl fun ls' h' => k p e R s m args below meth c H locs cells slots ls' z0 u0 C hH hz hu (xL_set (v := .int (x + Int32.ofInt d)) hl rfl hL h')
theorem x_iadd {x z : Int32} (hd : decode (yb y) pc = .ok (.iadd, 1)) (k : cA K y (pc + 1) L (.int (x + z) :: S) M o N) : cA K y pc L (.int z :: .int x :: S) M o N := by
  intro p e R s m args below meth c H locs cells slots ls z0 u0 C hH hz hu hl
  exact lv_iadd C.1 C.2.1 hd (k p e R s m args below meth c H locs cells slots ls z0 u0 C hH hz hu hl)
theorem x_isub {x z : Int32} (hd : decode (yb y) pc = .ok (.isub, 1)) (k : cA K y (pc + 1) L (.int (x - z) :: S) M o N) : cA K y pc L (.int z :: .int x :: S) M o N := by
  intro p e R s m args below meth c H locs cells slots ls z0 u0 C hH hz hu hl
  exact lv_isub C.1 C.2.1 hd (k p e R s m args below meth c H locs cells slots ls z0 u0 C hH hz hu hl)
theorem x_imul {x z : Int32} (hd : decode (yb y) pc = .ok (.imul, 1)) (k : cA K y (pc + 1) L (.int (x * z) :: S) M o N) : cA K y pc L (.int z :: .int x :: S) M o N := by
  intro p e R s m args below meth c H locs cells slots ls z0 u0 C hH hz hu hl
  exact lv_imul C.1 C.2.1 hd (k p e R s m args below meth c H locs cells slots ls z0 u0 C hH hz hu hl)
theorem x_iand {x z : Int32} (hd : decode (yb y) pc = .ok (.iand, 1)) (k : cA K y (pc + 1) L (.int (x &&& z) :: S) M o N) : cA K y pc L (.int z :: .int x :: S) M o N := by
  intro p e R s m args below meth c H locs cells slots ls z0 u0 C hH hz hu hl
  exact lv_iand C.1 C.2.1 hd (k p e R s m args below meth c H locs cells slots ls z0 u0 C hH hz hu hl)
theorem x_idiv {x z : Int32} (hd : decode (yb y) pc = .ok (.idiv, 1)) (hne : ¬ z = 0) (k : cA K y (pc + 1) L (.int (x / z) :: S) M o N) : cA K y pc L (.int z :: .int x :: S) M o N := by
  intro p e R s m args below meth c H locs cells slots ls z0 u0 C hH hz hu hl
  exact lv_idiv C.1 C.2.1 hd hne (k p e R s m args below meth c H locs cells slots ls z0 u0 C hH hz hu hl)
theorem x_i2l {x : Int32} (hd : decode (yb y) pc = .ok (.i2l, 1)) (k : cA K y (pc + 1) L (.long x.toInt64 :: S) M o N) : cA K y pc L (.int x :: S) M o N := by
  intro p e R s m args below meth c H locs cells slots ls z0 u0 C hH hz hu hl
  exact lv_i2l C.1 C.2.1 hd rfl (k p e R s m args below meth c H locs cells slots ls z0 u0 C hH hz hu hl)
theorem x_lcmp {x z : Int64} (hd : decode (yb y) pc = .ok (.lcmp, 1)) (k : cA K y (pc + 1) L (.int (lg_cmp x z) :: S) M o N) : cA K y pc L (.long z :: .long x :: S) M o N := by
  intro p e R s m args below meth c H locs cells slots ls z0 u0 C hH hz hu hl
  exact W.lcmp C.1 C.2.1 hd (k p e R s m args below meth c H locs cells slots ls z0 u0 C hH hz hu hl)
theorem x_dup {v : Value} (hd : decode (yb y) pc = .ok (.dup, 1)) (hv : v.category = 1) (k : cA K y (pc + 1) L (v :: v :: S) M o N) : cA K y pc L (v :: S) M o N := by
  intro p e R s m args below meth c H locs cells slots ls z0 u0 C hH hz hu hl
  exact lv_dup C.1 C.2.1 hd (by rw [xv_cat]; exact hv) (k p e R s m args below meth c H locs cells slots ls z0 u0 C hH hz hu hl)
theorem x_pop {v : Value} (hd : decode (yb y) pc = .ok (.pop, 1)) (hv : v.category = 1) (k : cA K y (pc + 1) L S M o N) : cA K y pc L (v :: S) M o N := by
  intro p e R s m args below meth c H locs cells slots ls z0 u0 C hH hz hu hl
  exact lv_pop C.1 C.2.1 hd (by rw [xv_cat]; exact hv) (k p e R s m args below meth c H locs cells slots ls z0 u0 C hH hz hu hl)
theorem x_dup_x1 {v w : Value} (hd : decode (yb y) pc = .ok (.dup_x1, 1)) (hv : v.category = 1) (hw : w.category = 1) (k : cA K y (pc + 1) L (v :: w :: v :: S) M o N) : cA K y pc L (v :: w :: S) M o N := by
  intro p e R s m args below meth c H locs cells slots ls z0 u0 C hH hz hu hl
  exact lv_dup_x1 C.1 C.2.1 hd (by rw [xv_cat]; exact hv) (by rw [xv_cat]; exact hw) (k p e R s m args below meth c H locs cells slots ls z0 u0 C hH hz hu hl)
theorem x_dup2 {v w : Value} (hd : decode (yb y) pc = .ok (.dup2, 1)) (hv : v.category = 1) (hw : w.category = 1) (k : cA K y (pc + 1) L (v :: w :: v :: w :: S) M o N) : cA K y pc L (v :: w :: S) M o N := by
  intro p e R s m args below meth c H locs cells slots ls z0 u0 C hH hz hu hl
  exact lv_dup2_11 C.1 C.2.1 hd (by rw [xv_cat]; exact hv) (by rw [xv_cat]; exact hw) (k p e R s m args below meth c H locs cells slots ls z0 u0 C hH hz hu hl)
theorem x_goto {off : Int} (tgt : Nat) (hd : decode (yb y) pc = .ok (.goto off, 3)) (ht : (pc : Int) + off = (tgt : Int)) (k : cA K y tgt L S M o N) : cA K y pc L S M o N := by
  intro p e R s m args below meth c H locs cells slots ls z0 u0 C hH hz hu hl
  exact lv_goto C.1 C.2.1 hd ht (k p e R s m args below meth c H locs cells slots ls z0 u0 C hH hz hu hl)
theorem x_if_eq {x : Int32} {off : Int} (tgt : Nat) (hd : decode (yb y) pc = .ok (.ifCond .eq off, 3)) (ht : (pc : Int) + off = (tgt : Int)) (kt : x = 0 → cA K y tgt L S M o N) (kf : ¬ x = 0 → cA K y (pc + 3) L S M o N) : cA K y pc L (.int x :: S) M o N := by
  intro p e R s m args below meth c H locs cells slots ls z0 u0 C hH hz hu hl
  exact lv_if_eq C.1 C.2.1 hd ht (fun h => kt h p e R s m args below meth c H locs cells slots ls z0 u0 C hH hz hu hl) (fun h => kf h p e R s m args below meth c H locs cells slots ls z0 u0 C hH hz hu hl)
theorem x_if_ne {x : Int32} {off : Int} (tgt : Nat) (hd : decode (yb y) pc = .ok (.ifCond .ne off, 3)) (ht : (pc : Int) + off = (tgt : Int)) (kt : ¬ x = 0 → cA K y tgt L S M o N) (kf : x = 0 → cA K y (pc + 3) L S M o N) : cA K y pc L (.int x :: S) M o N := by
  intro p e R s m args below meth c H locs cells slots ls z0 u0 C hH hz hu hl
  exact lv_if_ne C.1 C.2.1 hd ht (fun h => kt h p e R s m args below meth c H locs cells slots ls z0 u0 C hH hz hu hl) (fun h => kf h p e R s m args below meth c H locs cells slots ls z0 u0 C hH hz hu hl)
theorem x_if_lt {x : Int32} {off : Int} (tgt : Nat) (hd : decode (yb y) pc = .ok (.ifCond .lt off, 3)) (ht : (pc : Int) + off = (tgt : Int)) (kt : x < 0 → cA K y tgt L S M o N) (kf : ¬ x < 0 → cA K y (pc + 3) L S M o N) : cA K y pc L (.int x :: S) M o N := by
  intro p e R s m args below meth c H locs cells slots ls z0 u0 C hH hz hu hl
  exact lv_if_lt C.1 C.2.1 hd ht (fun h => kt h p e R s m args below meth c H locs cells slots ls z0 u0 C hH hz hu hl) (fun h => kf h p e R s m args below meth c H locs cells slots ls z0 u0 C hH hz hu hl)
theorem x_if_ge {x : Int32} {off : Int} (tgt : Nat) (hd : decode (yb y) pc = .ok (.ifCond .ge off, 3)) (ht : (pc : Int) + off = (tgt : Int)) (kt : 0 ≤ x → cA K y tgt L S M o N) (kf : ¬ 0 ≤ x → cA K y (pc + 3) L S M o N) : cA K y pc L (.int x :: S) M o N := by
  intro p e R s m args below meth c H locs cells slots ls z0 u0 C hH hz hu hl
  exact lv_if_ge C.1 C.2.1 hd ht (fun h => kt h p e R s m args below meth c H locs cells slots ls z0 u0 C hH hz hu hl) (fun h => kf h p e R s m args below meth c H locs cells slots ls z0 u0 C hH hz hu hl)
theorem x_if_gt {x : Int32} {off : Int} (tgt : Nat) (hd : decode (yb y) pc = .ok (.ifCond .gt off, 3)) (ht : (pc : Int) + off = (tgt : Int)) (kt : 0 < x → cA K y tgt L S M o N) (kf : ¬ 0 < x → cA K y (pc + 3) L S M o N) : cA K y pc L (.int x :: S) M o N := by
  intro p e R s m args below meth c H locs cells slots ls z0 u0 C hH hz hu hl
  exact lv_if_gt C.1 C.2.1 hd ht (fun h => kt h p e R s m args below meth c H locs cells slots ls z0 u0 C hH hz hu hl) (fun h => kf h p e R s m args below meth c H locs cells slots ls z0 u0 C hH hz hu hl)
theorem x_if_le {x : Int32} {off : Int} (tgt : Nat) (hd : decode (yb y) pc = .ok (.ifCond .le off, 3)) (ht : (pc : Int) + off = (tgt : Int)) (kt : x ≤ 0 → cA K y tgt L S M o N) (kf : ¬ x ≤ 0 → cA K y (pc + 3) L S M o N) : cA K y pc L (.int x :: S) M o N := by
  intro p e R s m args below meth c H locs cells slots ls z0 u0 C hH hz hu hl
  exact lv_if_le C.1 C.2.1 hd ht (fun h => kt h p e R s m args below meth c H locs cells slots ls z0 u0 C hH hz hu hl) (fun h => kf h p e R s m args below meth c H locs cells slots ls z0 u0 C hH hz hu hl)
theorem x_icmp_eq {x z : Int32} {off : Int} (tgt : Nat) (hd : decode (yb y) pc = .ok (.if_icmp .eq off, 3)) (ht : (pc : Int) + off = (tgt : Int)) (kt : x = z → cA K y tgt L S M o N) (kf : ¬ x = z → cA K y (pc + 3) L S M o N) : cA K y pc L (.int z :: .int x :: S) M o N := by
  intro p e R s m args below meth c H locs cells slots ls z0 u0 C hH hz hu hl
  exact lv_icmp_eq C.1 C.2.1 hd ht (fun h => kt h p e R s m args below meth c H locs cells slots ls z0 u0 C hH hz hu hl) (fun h => kf h p e R s m args below meth c H locs cells slots ls z0 u0 C hH hz hu hl)
theorem x_icmp_ne {x z : Int32} {off : Int} (tgt : Nat) (hd : decode (yb y) pc = .ok (.if_icmp .ne off, 3)) (ht : (pc : Int) + off = (tgt : Int)) (kt : ¬ x = z → cA K y tgt L S M o N) (kf : x = z → cA K y (pc + 3) L S M o N) : cA K y pc L (.int z :: .int x :: S) M o N := by
  intro p e R s m args below meth c H locs cells slots ls z0 u0 C hH hz hu hl
  exact lv_icmp_ne C.1 C.2.1 hd ht (fun h => kt h p e R s m args below meth c H locs cells slots ls z0 u0 C hH hz hu hl) (fun h => kf h p e R s m args below meth c H locs cells slots ls z0 u0 C hH hz hu hl)
theorem x_icmp_lt {x z : Int32} {off : Int} (tgt : Nat) (hd : decode (yb y) pc = .ok (.if_icmp .lt off, 3)) (ht : (pc : Int) + off = (tgt : Int)) (kt : x < z → cA K y tgt L S M o N) (kf : ¬ x < z → cA K y (pc + 3) L S M o N) : cA K y pc L (.int z :: .int x :: S) M o N := by
  intro p e R s m args below meth c H locs cells slots ls z0 u0 C hH hz hu hl
  exact lv_icmp_lt C.1 C.2.1 hd ht (fun h => kt h p e R s m args below meth c H locs cells slots ls z0 u0 C hH hz hu hl) (fun h => kf h p e R s m args below meth c H locs cells slots ls z0 u0 C hH hz hu hl)
theorem x_icmp_ge {x z : Int32} {off : Int} (tgt : Nat) (hd : decode (yb y) pc = .ok (.if_icmp .ge off, 3)) (ht : (pc : Int) + off = (tgt : Int)) (kt : z ≤ x → cA K y tgt L S M o N) (kf : ¬ z ≤ x → cA K y (pc + 3) L S M o N) : cA K y pc L (.int z :: .int x :: S) M o N := by
  intro p e R s m args below meth c H locs cells slots ls z0 u0 C hH hz hu hl
  exact lv_icmp_ge C.1 C.2.1 hd ht (fun h => kt h p e R s m args below meth c H locs cells slots ls z0 u0 C hH hz hu hl) (fun h => kf h p e R s m args below meth c H locs cells slots ls z0 u0 C hH hz hu hl)
theorem x_icmp_gt {x z : Int32} {off : Int} (tgt : Nat) (hd : decode (yb y) pc = .ok (.if_icmp .gt off, 3)) (ht : (pc : Int) + off = (tgt : Int)) (kt : z < x → cA K y tgt L S M o N) (kf : ¬ z < x → cA K y (pc + 3) L S M o N) : cA K y pc L (.int z :: .int x :: S) M o N := by
  intro p e R s m args below meth c H locs cells slots ls z0 u0 C hH hz hu hl
  exact lv_icmp_gt C.1 C.2.1 hd ht (fun h => kt h p e R s m args below meth c H locs cells slots ls z0 u0 C hH hz hu hl) (fun h => kf h p e R s m args below meth c H locs cells slots ls z0 u0 C hH hz hu hl)
theorem x_icmp_le {x z : Int32} {off : Int} (tgt : Nat) (hd : decode (yb y) pc = .ok (.if_icmp .le off, 3)) (ht : (pc : Int) + off = (tgt : Int)) (kt : x ≤ z → cA K y tgt L S M o N) (kf : ¬ x ≤ z → cA K y (pc + 3) L S M o N) : cA K y pc L (.int z :: .int x :: S) M o N := by
  intro p e R s m args below meth c H locs cells slots ls z0 u0 C hH hz hu hl
  exact lv_icmp_le C.1 C.2.1 hd ht (fun h => kt h p e R s m args below meth c H locs cells slots ls z0 u0 C hH hz hu hl) (fun h => kf h p e R s m args below meth c H locs cells slots ls z0 u0 C hH hz hu hl)
theorem x_tableOut {x : Int32} {dflt lo hi : Int} {offs : Array Int} {len : Nat} (tgt : Nat) (hd : decode (yb y) pc = .ok (.tableswitch dflt lo hi offs, len)) (h : x.toInt < lo ∨ hi < x.toInt) (ht : (pc : Int) + dflt = (tgt : Int)) (k : cA K y tgt L S M o N) : cA K y pc L (.int x :: S) M o N := by
  intro p e R s m args below meth c H locs cells slots ls z0 u0 C hH hz hu hl
  exact lv_tableOut C.1 C.2.1 hd h ht (k p e R s m args below meth c H locs cells slots ls z0 u0 C hH hz hu hl)
theorem x_tableIn {x : Int32} {dflt lo hi off : Int} {offs : Array Int} {len : Nat} (tgt : Nat) (hd : decode (yb y) pc = .ok (.tableswitch dflt lo hi offs, len)) (h1 : ¬ x.toInt < lo) (h2 : ¬ hi < x.toInt) (ho : offs[(x.toInt - lo).toNat]? = some off) (ht : (pc : Int) + off = (tgt : Int)) (k : cA K y tgt L S M o N) : cA K y pc L (.int x :: S) M o N := by
  intro p e R s m args below meth c H locs cells slots ls z0 u0 C hH hz hu hl
  exact lv_tableIn C.1 C.2.1 hd h1 h2 ho ht (k p e R s m args below meth c H locs cells slots ls z0 u0 C hH hz hu hl)
theorem x_lookup {x : Int32} {dflt off : Int} {ps : Array (Int × Int)} {len : Nat} (tgt : Nat) (hd : decode (yb y) pc = .ok (.lookupswitch dflt ps, len)) (hp : (ps.toList.zip (ps.toList.drop 1)).all (fun (a, next) => a.1 < next.1) = true) (ho : Op.lookupswitch.offset ps.toList dflt x.toInt = off) (ht : (pc : Int) + off = (tgt : Int)) (k : cA K y tgt L S M o N) : cA K y pc L (.int x :: S) M o N := by
  intro p e R s m args below meth c H locs cells slots ls z0 u0 C hH hz hu hl
  exact lv_lookup C.1 C.2.1 hd hp ho ht (k p e R s m args below meth c H locs cells slots ls z0 u0 C hH hz hu hl)
theorem x_ireturn {v : Int32} (hd : decode (yb y) pc = .ok (.ireturn, 1)) (hret : yr y = some .int) : cA K y pc L [.int v] M (.inl (some (.int v))) M := by
  intro p e R s m args below meth c H locs cells slots ls z0 u0 C hH hz hu hl
  intro T hT X
  have hlocks : meth.locks = false := C.2.2.2.2.1
  have hr : meth.sig.returnType = _ := C.2.2.2.1.trans hret
  obtain ⟨fs, hr2, hrun, hended, hW, hframe⟩ := X.leave (v := some (.int v)) (fun h => by rw [hr] at h; cases h)
  have hmeth' : T.vm.method? m = some meth := X.method'
  refine ⟨T.setFrames fs, ?_, hrun, hended, hT ▸ hH, hW, ⟨by omega, by omega, hz.2, hu.2⟩, locs, ?_, C.2.2.2.2.2.2.2.2.2.2.2.2.2.2.2⟩
  · show Steps p.tables e below (T.setTop (F0 m pc ls [.int v])) (T.setFrames fs)
    have hexec := C.1
    have hb := C.2.1
    jvm_step X.here [X.here.top, hexec, hb, hd, hmeth', hr, narrow]
    (try refine ⟨rfl, ?_⟩); (try refine ⟨rfl, ?_⟩)
    first | (intro acts; rw [hr2 _ acts rfl rfl rfl]) | rw [hr2 _ _ rfl rfl rfl]
    exact Steps.refl _
  · rw [show xz M - z0 = cells by omega, show xu M - u0 = slots by omega]
    exact hframe
theorem x_zreturn {v : Int32} (hd : decode (yb y) pc = .ok (.ireturn, 1)) (hret : yr y = some .boolean) (hn : narrow .boolean (.int v) = .int v) : cA K y pc L [.int v] M (.inl (some (.int v))) M := by
  intro p e R s m args below meth c H locs cells slots ls z0 u0 C hH hz hu hl
  intro T hT X
  have hlocks : meth.locks = false := C.2.2.2.2.1
  have hr : meth.sig.returnType = _ := C.2.2.2.1.trans hret
  obtain ⟨fs, hr2, hrun, hended, hW, hframe⟩ := X.leave (v := some (.int v)) (fun h => by rw [hr] at h; cases h)
  have hmeth' : T.vm.method? m = some meth := X.method'
  refine ⟨T.setFrames fs, ?_, hrun, hended, hT ▸ hH, hW, ⟨by omega, by omega, hz.2, hu.2⟩, locs, ?_, C.2.2.2.2.2.2.2.2.2.2.2.2.2.2.2⟩
  · show Steps p.tables e below (T.setTop (F0 m pc ls [.int v])) (T.setFrames fs)
    have hexec := C.1
    have hb := C.2.1
    jvm_step X.here [X.here.top, hexec, hb, hd, hmeth', hr, hn]
    (try refine ⟨rfl, ?_⟩); (try refine ⟨rfl, ?_⟩)
    first | (intro acts; rw [hr2 _ acts rfl rfl rfl]) | rw [hr2 _ _ rfl rfl rfl]
    exact Steps.refl _
  · rw [show xz M - z0 = cells by omega, show xu M - u0 = slots by omega]
    exact hframe
theorem x_areturn {a : Nat} {n : String} (hd : decode (yb y) pc = .ok (.areturn, 1)) (hret : yr y = some (.object n)) : cA K y pc L [.ref a] M (.inl (some (.ref a))) M := by
  intro p e R s m args below meth c H locs cells slots ls z0 u0 C hH hz hu hl
  intro T hT X
  have hlocks : meth.locks = false := C.2.2.2.2.1
  have hr : meth.sig.returnType = _ := C.2.2.2.1.trans hret
  obtain ⟨fs, hr2, hrun, hended, hW, hframe⟩ := X.leave (v := some (.ref (xa K a))) (fun h => by rw [hr] at h; cases h)
  have hmeth' : T.vm.method? m = some meth := X.method'
  refine ⟨T.setFrames fs, ?_, hrun, hended, hT ▸ hH, hW, ⟨by omega, by omega, hz.2, hu.2⟩, locs, ?_, C.2.2.2.2.2.2.2.2.2.2.2.2.2.2.2⟩
  · show Steps p.tables e below (T.setTop (F0 m pc ls [.ref (xa K a)])) (T.setFrames fs)
    have hexec := C.1
    have hb := C.2.1
    jvm_step X.here [X.here.top, hexec, hb, hd, hmeth', hr, narrow]
    (try refine ⟨rfl, ?_⟩); (try refine ⟨rfl, ?_⟩)
    first | (intro acts; rw [hr2 _ acts rfl rfl rfl]) | rw [hr2 _ _ rfl rfl rfl]
    exact Steps.refl _
  · rw [show xz M - z0 = cells by omega, show xu M - u0 = slots by omega]
    exact hframe
theorem x_return (hd : decode (yb y) pc = .ok (.return_, 1)) (hret : yr y = none) : cA K y pc L [] M (.inl none) M := by
  intro p e R s m args below meth c H locs cells slots ls z0 u0 C hH hz hu hl
  intro T hT X
  have hlocks : meth.locks = false := C.2.2.2.2.1
  have hr : meth.sig.returnType = _ := C.2.2.2.1.trans hret
  obtain ⟨fs, hr2, hrun, hended, hW, hframe⟩ := X.leave (v := none) (fun _ => rfl)
  have hmeth' : T.vm.method? m = some meth := X.method'
  refine ⟨T.setFrames fs, ?_, hrun, hended, hT ▸ hH, hW, ⟨by omega, by omega, hz.2, hu.2⟩, locs, ?_, C.2.2.2.2.2.2.2.2.2.2.2.2.2.2.2⟩
  · show Steps p.tables e below (T.setTop (F0 m pc ls [])) (T.setFrames fs)
    have hexec := C.1
    have hb := C.2.1
    jvm_step X.here [X.here.top, hexec, hb, hd, hmeth', hr, narrow]
    (try refine ⟨rfl, ?_⟩); (try refine ⟨rfl, ?_⟩)
    first | (intro acts; rw [hr2 _ acts rfl rfl rfl]) | rw [hr2 _ _ rfl rfl rfl]
    exact Steps.refl _
  · rw [show xz M - z0 = cells by omega, show xu M - u0 = slots by omega]
    exact hframe
end XR
