/-! what the tables say of the classes -/
theorem xcl_w : ∀ q ∈ xcl, ∀ f ∈ q.2, (if f.2.2.1 = true then Cond.laysFinal q.1 q.1 f.1 f.2.1 else Cond.lays q.1 q.1 f.1 f.2.1) ∈ lw_tbl := by decide +kernel
def xfty (f : XF) : FieldType := (parseFieldDescriptor f.2.1).getD .int
theorem xcl_t : ∀ q ∈ xcl, ∀ f ∈ q.2, parseFieldDescriptor f.2.1 = some (xfty f) ∧ defaultValue (xfty f) = if f.2.2.2 = true then .null else .int 0 := by decide +kernel
theorem xcl_n : ∀ q ∈ xcl, ∀ i, i < q.2.length → ∀ j, j < q.2.length → i ≠ j → (q.2[i]?.map fun f => f.1) ≠ (q.2[j]?.map fun f => f.1) := by decide +kernel
theorem xcl_i : ∀ q ∈ xcl, Cond.instantiable q.1 q.2.length ∈ lw_tbl := by decide +kernel
theorem xcl_lay {K : XK} (G : xG K) {q : String × List XF} {f : XF} (hq : q ∈ xcl) (hf : f ∈ q.2) {U : State} (hW : (xs K).WarmedH U.vm) (args : Array Value) : (Cond.lays q.1 q.1 f.1 f.2.1).before args U = true ∧ f.2.2.1 = false ∨ (Cond.laysFinal q.1 q.1 f.1 f.2.1).before args U = true ∧ f.2.2.1 = true := by
  have h := xcl_w q hq f hf
  cases hb : f.2.2.1 with
  | true =>
    rw [if_pos hb] at h
    exact Or.inr ⟨xw G rfl h hW args, rfl⟩
  | false =>
    rw [if_neg (by rw [hb]; decide)] at h
    exact Or.inl ⟨xw G rfl h hW args, rfl⟩
theorem xcl_lay' {K : XK} (G : xG K) {q : String × List XF} {f : XF} (hq : q ∈ xcl) (hf : f ∈ q.2) {U : State} (hW : (xs K).WarmedH U.vm) (args : Array Value) : (Cond.lays q.1 q.1 f.1 f.2.1).before args U = true ∨ (Cond.laysFinal q.1 q.1 f.1 f.2.1).before args U = true := by
  rcases xcl_lay G hq hf hW args with h | h
  · exact Or.inl h.1
  · exact Or.inr h.1
theorem xcl_apart {K : XK} (G : xG K) {q : String × List XF} {f g : XF} {i j a b : Nat} (hq : q ∈ xcl) (hf : q.2[i]? = some f) (hg : q.2[j]? = some g) (hne : i ≠ j) (h1 : SlotIs (xs K) q.1 f.1 f.2.1 a) (h2 : SlotIs (xs K) q.1 g.1 g.2.1 b) : a ≠ b := by
  obtain ⟨_, _, _, fa, hia, ea⟩ := h1
  obtain ⟨_, _, _, fb, hib, eb⟩ := h2
  have hf' := List.mem_of_getElem? hf
  have hg' := List.mem_of_getElem? hg
  rw [← ea, ← eb]
  refine u_apart (xcl_lay' G hq hf' (State.WarmedH.refl _) #[]) (xcl_lay' G hq hg' (State.WarmedH.refl _) #[]) hia hib ?_
  rw [(State.fieldFound?_type hia (xcl_t q hq f hf').1).1, (State.fieldFound?_type hib (xcl_t q hq g hg').1).1]
  have h := xcl_n q hq i (List.getElem?_eq_some_iff.mp hf).1 j (List.getElem?_eq_some_iff.mp hg).1 hne
  rw [hf, hg] at h
  intro e
  exact h (by simp [e])
theorem xnz {x : Int32} (hx : x = 0 ∨ x = 1) : narrow .boolean (.int x) = .int x ∧ fits .boolean (.int x) = true := by rcases hx with rfl | rfl <;> decide
theorem xrf_v (K : XK) (a : Nat) : xrf K (some a) = xv K (.ref a) := rfl
section XR
variable {K : XK} {y : YT} {pc : Nat} {L : XL} {S : List Value} {M N : XM} {o : XO}
/-- a field's value -/
theorem x_getV (G : xG K) {ci j index a : Nat} {q : String × List XF} {f : XF} {v : Value} (hd : decode (yb y) pc = .ok (.getfield index, 3)) (hq : xcl[ci]? = some q) (hf : q.2[j]? = some f) (hk : Cond.fieldLink (ym y).cls index q.1 f.1 f.2.1 ∈ lw_tbl)
    (ha : a < xz M) (ht : (xt M a).1 = 20 + ci) (hv : xfv K M f a j = xv K v) (k : cA K y (pc + 3) L (v :: S) M o N) : cA K y pc L (.ref a :: S) M o N := by
  intro p e R s m args below meth c H locs cells slots ls z0 u0 C hH hz hu hl
  have hW := C.2.2.2.2.2.2.2.2.1
  obtain ⟨cell, a1, a2, a3, a4⟩ := (hH.2.2.1 a ha).2.1 ci q ht hq
  obtain ⟨i, b1, b2⟩ := a4 j f hf
  obtain ⟨cf, kf, fi, fd, hi, hsl⟩ := slotIs_moved hW.alike b1
  have hfc : s.vm.findClass q.1 = some cell.cls := by rw [hW.alike.findClass]; exact a2
  obtain ⟨kC, hkC⟩ := Vm.classAt_of_findClass hfc
  have hst := (u_facts hfc hkC (xcl_lay' G (List.mem_of_getElem? hq) (List.mem_of_getElem? hf) hW args) hi).1
  refine W.getf C.1 C.2.1 C.2.2.2.2.2.2.2.1 (xw G rfl hk hW args) hi hst a1 (by rw [a3]; exact fun h => by cases h) (v := xv K v) (by rw [hsl, b2, hv]) rfl rfl hd (k p e R s m args below meth c H locs cells slots ls z0 u0 C hH hz hu hl)
theorem x_getI (G : xG K) {ci j index a : Nat} {q : String × List XF} {f : XF} (hd : decode (yb y) pc = .ok (.getfield index, 3)) (hq : xcl[ci]? = some q) (hf : q.2[j]? = some f) (hr : f.2.2.2 = false) (hk : Cond.fieldLink (ym y).cls index q.1 f.1 f.2.1 ∈ lw_tbl)
    (ha : a < xz M) (ht : (xt M a).1 = 20 + ci) (k : cA K y (pc + 3) L (.int (xi M a j) :: S) M o N) : cA K y pc L (.ref a :: S) M o N :=
  x_getV G hd hq hf hk ha ht (v := .int (xi M a j)) (by unfold xfv; rw [if_neg (by rw [hr]; decide)]; rfl) k
theorem x_getR (G : xG K) {ci j index a b : Nat} {q : String × List XF} {f : XF} (hd : decode (yb y) pc = .ok (.getfield index, 3)) (hq : xcl[ci]? = some q) (hf : q.2[j]? = some f) (hr : f.2.2.2 = true) (hk : Cond.fieldLink (ym y).cls index q.1 f.1 f.2.1 ∈ lw_tbl)
    (ha : a < xz M) (ht : (xt M a).1 = 20 + ci) (hb : xr M a j = some b) (k : cA K y (pc + 3) L (.ref b :: S) M o N) : cA K y pc L (.ref a :: S) M o N :=
  x_getV G hd hq hf hk ha ht (v := .ref b) (by unfold xfv; rw [if_pos hr, hb]; rfl) k
/-- a field is written -/
theorem x_putV (G : xG K) {ci j index a : Nat} {q : String × List XF} {f : XF} {v : Value} {M1 : XM} (hd : decode (yb y) pc = .ok (.putfield index, 3)) (hq : xcl[ci]? = some q) (hf : q.2[j]? = some f) (hk : Cond.fieldLink (ym y).cls index q.1 f.1 f.2.1 ∈ lw_tbl)
    (hfin : f.2.2.1 = false ∨ (ym y).name = "<init>" ∧ (ym y).cls = q.1) (ha : a < xz M) (ht : (xt M a).1 = 20 + ci) (hn : narrow (xfty f) (xv K v) = xv K v) (hfit : fits (xfty f) (xv K v) = true)
    (g1 : xz M1 = xz M) (g2 : xt M1 = xt M) (g0 : xu M1 = xu M) (g3 : ∀ b, b ≠ a → (∀ i, xi M1 b i = xi M b i) ∧ (∀ i, xr M1 b i = xr M b i) ∧ ∀ i, xj M1 b i = xj M b i) (g4 : ∀ (i : Nat) (f' : XF), q.2[i]? = some f' → i ≠ j → xfv K M1 f' a i = xfv K M f' a i) (g5 : xfv K M1 f a j = xv K v)
    (k : cA K y (pc + 3) L S M1 o N) : cA K y pc L (v :: .ref a :: S) M o N := by
  intro p e R s m args below meth c H locs cells slots ls z0 u0 C hH hz hu hl
  have hW := C.2.2.2.2.2.2.2.2.1
  have hqm := List.mem_of_getElem? hq
  have hfm := List.mem_of_getElem? hf
  have ha0 : a ≠ 0 := fun e0 => by
    have h5 := hH.2.2.2
    rw [e0] at ht
    omega
  obtain ⟨cell, a1, a2, a3, a4⟩ := (hH.2.2.1 a ha).2.1 ci q ht hq
  obtain ⟨i, b1, b2⟩ := a4 j f hf
  obtain ⟨cf, kf, fi, fd, hi, hsl⟩ := slotIs_moved hW.alike b1
  have hfc : s.vm.findClass q.1 = some cell.cls := by rw [hW.alike.findClass]; exact a2
  obtain ⟨kC, hkC⟩ := Vm.classAt_of_findClass hfc
  have hlay := xcl_lay' G hqm hfm hW args
  have hfacts := u_facts hfc hkC hlay hi
  have hty := (State.fieldFound?_type hi (xcl_t q hqm f hfm).1).2
  have hkind : kC.kind = .ordinary := by
    obtain ⟨c1, k1, e1, e2, e3, -⟩ := Cond.instantiable_spec (xw G rfl (xcl_i q hqm) hW args)
    cases hfc.symm.trans e1
    cases hkC.symm.trans e2
    exact e3
  have h6 := u_fits (ty := xfty f) (v := xv K v) hfc hkC hkind hlay hi (xcl_t q hqm f hfm).1 hn hfit
  have hfin' : hasFlag fd.accessFlags Acc.final = false ∨ (m.cls = cf ∧ meth.name = "<init>") := by
    rcases xcl_lay G hqm hfm hW args with ⟨h, -⟩ | ⟨h, hb⟩
    · obtain ⟨c, k, cf', kf', fi', fd', r1, r2, hi', hst, hfin, -⟩ := Cond.lays_spec h
      cases hi.symm.trans hi'
      exact Or.inl hfin
    · rcases hfin with hx | ⟨hx1, hx2⟩
      · rw [hx] at hb; cases hb
      · obtain ⟨_, _, c', _, _, _, -, -, hf', -, -, -, hown2, -⟩ := Cond.laysFinal_spec h
        have e1 : c' = cf := by have := hi.symm.trans hf'; simp at this; exact this.1.symm
        refine Or.inr ⟨?_, C.2.2.2.2.2.2.1.trans hx1⟩
        have hown := C.2.2.2.2.2.2.2.1
        rw [hx2] at hown
        rw [← e1]; exact Option.some.inj (hown.symm.trans hown2)
  have hlt : fd.slot < cell.slots.size := by rw [hsl]; exact k2_hasslot b2
  have hsz : xa K a < H.size := (Array.getElem?_eq_some_iff.mp a1).1
  refine W.putf C.1 C.2.1 C.2.2.2.2.2.2.2.1 (xw G rfl hk hW args) hi hfacts.1 hfin' a1 (by rw [a3]; exact fun h => by cases h) hlt h6.1 (by rw [a3]; exact h6.2) rfl rfl hd ?_
  refine k p e R s m args below meth c _ _ cells slots ls z0 u0 ⟨C.1, C.2.1, C.2.2.1, C.2.2.2.1, C.2.2.2.2.1, C.2.2.2.2.2.1, C.2.2.2.2.2.2.1, C.2.2.2.2.2.2.2.1, C.2.2.2.2.2.2.2.2.1, C.2.2.2.2.2.2.2.2.2.1, C.2.2.2.2.2.2.2.2.2.2.1, C.2.2.2.2.2.2.2.2.2.2.2.1, C.2.2.2.2.2.2.2.2.2.2.2.2.1, C.2.2.2.2.2.2.2.2.2.2.2.2.2.1, C.2.2.2.2.2.2.2.2.2.2.2.2.2.2.1, ?_⟩ ?_ (by rw [g1]; exact hz) (by rw [g0]; exact hu) hl
  · intro q' hq'
    rcases List.mem_append.mp hq' with h | h
    · exact C.2.2.2.2.2.2.2.2.2.2.2.2.2.2.2 q' h
    · rw [List.mem_singleton.mp h]
      show xB K < xa K a
      rw [xa_pos ha0]; omega
  · refine xH_put G hH ha0 g1 g2 g3 (by simp) (fun q' hq' => by simp [Array.getElem?_setIfInBounds, Ne.symm hq']) ⟨fun ty h => ?_, fun c' q' h h' => ?_, fun c' nm h h' => ?_⟩
    · rw [g2, ht] at h
      unfold xar at h
      split at h <;> first | omega | cases h
    · have e1 : c' = ci := by rw [g2, ht] at h; omega
      subst e1
      cases hq.symm.trans h'
      refine ⟨cell.setSlot fd.slot (xv K v), by simp [Array.getElem?_setIfInBounds, hsz], a2, a3, fun i' f' hf' => ?_⟩
      by_cases ei : i' = j
      · subst ei
        cases hf.symm.trans hf'
        exact ⟨i, b1, by rw [g5, ← hsl]; simp [Cell.setSlot, Array.getElem?_setIfInBounds, hlt]⟩
      · obtain ⟨i2, c1, c2⟩ := a4 i' f' hf'
        refine ⟨i2, c1, ?_⟩
        have hap := xcl_apart G hqm hf' hf ei c1 b1
        rw [g4 i' f' hf' ei, ← c2, hsl]
        simp [Cell.setSlot, Array.getElem?_setIfInBounds, Ne.symm hap]
    · rw [g2, ht] at h
      have : c' + 20 = ci := by omega
      have h7 := (List.getElem?_eq_some_iff.mp hq).1
      simp [xcl] at h7
      omega
theorem x_putI (G : xG K) {ci j index a : Nat} {q : String × List XF} {f : XF} {x : Int32} (hd : decode (yb y) pc = .ok (.putfield index, 3)) (hq : xcl[ci]? = some q) (hf : q.2[j]? = some f) (hr : f.2 = ("I", false, false)) (hk : Cond.fieldLink (ym y).cls index q.1 f.1 f.2.1 ∈ lw_tbl)
    (ha : a < xz M) (ht : (xt M a).1 = 20 + ci) (k : cA K y (pc + 3) L S (xpi M a j x) o N) : cA K y pc L (.int x :: .ref a :: S) M o N := by
  have hty : xfty f = .int := by unfold xfty; rw [hr]; decide +kernel
  refine x_putV (M1 := xpi M a j x) G hd hq hf hk (Or.inl (by rw [hr])) ha ht (v := .int x) (by rw [hty]; rfl) (by rw [hty]; rfl) rfl rfl rfl (fun b hb => ⟨fun i => by simp [xpi, xi, hb], fun i => rfl, fun i => rfl⟩) (fun i f' _ hi => ?_) ?_ k
  · simp [xfv, xpi, xi, xr, hi]
  · simp [xfv, xpi, xi, hr, xv]
theorem x_putZ (G : xG K) {ci j index a : Nat} {q : String × List XF} {f : XF} {x : Int32} (hd : decode (yb y) pc = .ok (.putfield index, 3)) (hq : xcl[ci]? = some q) (hf : q.2[j]? = some f) (hr : f.2 = ("Z", false, false)) (hk : Cond.fieldLink (ym y).cls index q.1 f.1 f.2.1 ∈ lw_tbl)
    (ha : a < xz M) (ht : (xt M a).1 = 20 + ci) (hx : x = 0 ∨ x = 1) (k : cA K y (pc + 3) L S (xpi M a j x) o N) : cA K y pc L (.int x :: .ref a :: S) M o N := by
  have hty : xfty f = .boolean := by unfold xfty; rw [hr]; decide +kernel
  refine x_putV (M1 := xpi M a j x) G hd hq hf hk (Or.inl (by rw [hr])) ha ht (v := .int x) (by rw [hty]; exact (xnz hx).1) (by rw [hty]; exact (xnz hx).2) rfl rfl rfl (fun b hb => ⟨fun i => by simp [xpi, xi, hb], fun i => rfl, fun i => rfl⟩) (fun i f' _ hi => ?_) ?_ k
  · simp [xfv, xpi, xi, xr, hi]
  · simp [xfv, xpi, xi, hr, xv]
theorem x_putR (G : xG K) {ci j index a b : Nat} {q : String × List XF} {f : XF} (hd : decode (yb y) pc = .ok (.putfield index, 3)) (hq : xcl[ci]? = some q) (hf : q.2[j]? = some f) (hr : f.2.2.2 = true) (hk : Cond.fieldLink (ym y).cls index q.1 f.1 f.2.1 ∈ lw_tbl)
    (hfin : f.2.2.1 = false ∨ (ym y).name = "<init>" ∧ (ym y).cls = q.1) (ha : a < xz M) (ht : (xt M a).1 = 20 + ci) (hn : ∀ r, narrow (xfty f) (.ref r) = .ref r) (hfit : ∀ r, fits (xfty f) (.ref r) = true) (k : cA K y (pc + 3) L S (xpr M a j b) o N) : cA K y pc L (.ref b :: .ref a :: S) M o N := by
  refine x_putV (M1 := xpr M a j b) G hd hq hf hk hfin ha ht (v := .ref b) (hn _) (hfit _) rfl rfl rfl (fun c hc => ⟨fun i => rfl, fun i => by simp [xpr, xr, hc], fun i => rfl⟩) (fun i f' _ hi => ?_) ?_ k
  · simp [xfv, xpr, xi, xr, hi]
  · simp [xfv, xpr, xr, hr, xv, xrf]
end XR
