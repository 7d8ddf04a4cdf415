/-! the classes: name; fields: name, descriptor, final, reference -/
abbrev XF : Type := String × String × Bool × Bool
def xcl : List (String × List XF) :=
  [("ShakenTree", [("wholeProgram", "LShakenTree$Program;", true, true), ("shakenProgram", "LShakenTree$Program;", true, true), ("shaker", "LShakenTree$Shaker;", true, true), ("machine", "LShakenTree$Machine;", true, true)]),
   ("ShakenTree$Program", [("pools", "[LShakenTree$Pool;", true, true), ("members", "[LShakenTree$Member;", true, true), ("classes", "I", false, false), ("size", "I", false, false)]),
   ("ShakenTree$Pool", [("kinds", "[I", true, true), ("firsts", "[I", true, true), ("seconds", "[I", true, true), ("size", "I", false, false)]),
   ("ShakenTree$Member", [("owner", "I", false, false), ("namePlace", "I", false, false), ("arguments", "I", false, false), ("isEntry", "Z", false, false), ("length", "I", false, false), ("whats", "[I", true, true), ("numbers", "[I", true, true)]),
   ("ShakenTree$Shaker", [("memberTo", "[I", true, true), ("classTo", "[I", true, true), ("constantTo", "[[I", true, true), ("nameTo", "[I", true, true), ("nameUse", "[I", true, true), ("found", "[I", true, true), ("foundSize", "I", false, false)]),
   ("ShakenTree$Frame", [("stack", "[I", true, true), ("height", "I", false, false), ("method", "LShakenTree$Member;", false, true), ("next", "I", false, false), ("x", "I", false, false), ("y", "I", false, false)]),
   ("ShakenTree$Machine", [("fields", "[I", true, true), ("frames", "[LShakenTree$Frame;", true, true), ("open", "I", false, false), ("result", "I", false, false)]),
   ("ShakenTreeModel", [("code", "I", false, false), ("classes", "[I", true, true), ("members", "[I", true, true), ("pools", "[I", true, true), ("kinds", "[I", true, true), ("firsts", "[I", true, true), ("seconds", "[I", true, true), ("owners", "[I", true, true), ("names", "[I", true, true), ("arguments", "[I", true, true), ("sizes", "[I", true, true), ("entries", "[Z", true, true), ("whats", "[I", true, true), ("numbers", "[I", true, true), ("movedTo", "[I", true, true), ("keep", "[Z", true, true), ("classTo", "[I", true, true), ("keepConstant", "[Z", true, true), ("constantTo", "[I", true, true), ("nameTo", "[I", true, true), ("given", "[Z", true, true), ("values", "[I", true, true), ("depth", "I", false, false), ("method", "[I", true, true), ("at", "[I", true, true), ("given0", "[I", true, true), ("given1", "[I", true, true), ("high", "[I", true, true), ("stack", "[I", true, true), ("popped", "I", false, false)])]
def xex : List String := ["java/lang/IllegalStateException", "java/lang/IndexOutOfBoundsException", "java/lang/IllegalArgumentException", "java/lang/ArithmeticException", "java/lang/UnsupportedOperationException"]
/-- what the kinds of arrays hold; 5: the script, which is only read -/
def xar (k : Nat) : Option FieldType := match k with
  | 0 => some .int
  | 1 => some .boolean
  | 2 => some .long
  | 5 => some .int
  | 10 => some (.object "ShakenTree$Pool")
  | 11 => some (.object "ShakenTree$Member")
  | 12 => some (.object "ShakenTree$Frame")
  | 13 => some (.array .int)
  | _ => none
def xrf (K : XK) (r : Option Nat) : Value := match r with
  | none => .null
  | some a => .ref (xa K a)
def xval (K : XK) (M : XM) (a i : Nat) : Value := if (xt M a).1 < 10 then (if (xt M a).1 = 2 then .long (xj M a i) else .int (xi M a i)) else xrf K (xr M a i)
def xfv (K : XK) (M : XM) (f : XF) (a j : Nat) : Value := if f.2.2.2 = true then xrf K (xr M a j) else .int (xi M a j)
def xisA (s : State) (cell : Cell) (ty : FieldType) : Prop := s.isArrayOf cell ty ∧ ∀ n : String, ty = .object n → ∃ (k : Class) (comp : ClassId), s.vm.classes[cell.cls]? = some k ∧ k.kind = .array comp ty ∧ s.vm.findClass n = some comp
def xcA (K : XK) (M : XM) (H : Heap) (a : Nat) (ty : FieldType) : Prop := ∃ cell, H[xa K a]? = some cell ∧ xisA (xs K) cell ty ∧ cell.vm ≠ .unknown ∧ cell.slots.size = (xt M a).2 ∧ ∀ i, i < (xt M a).2 → cell.slots[i]? = some (xval K M a i)
def xcO (K : XK) (M : XM) (H : Heap) (a : Nat) (q : String × List XF) : Prop := ∃ cell, H[xa K a]? = some cell ∧ (xs K).vm.findClass q.1 = some cell.cls ∧ cell.vm = .none ∧ ∀ (j : Nat) (f : XF), q.2[j]? = some f → ∃ i, SlotIs (xs K) q.1 f.1 f.2.1 i ∧ cell.slots[i]? = some (xfv K M f a j)
def xcE (K : XK) (H : Heap) (a : Nat) (nm : String) : Prop := ∃ cell, H[xa K a]? = some cell ∧ (xs K).vm.findClass nm = some cell.cls ∧ cell.vm.isStatics = false
def xcell (K : XK) (M : XM) (H : Heap) (a : Nat) : Prop :=
  (∀ ty, xar (xt M a).1 = some ty → xcA K M H a ty) ∧ (∀ (c : Nat) (q : String × List XF), (xt M a).1 = 20 + c → xcl[c]? = some q → xcO K M H a q) ∧ (∀ (c : Nat) (nm : String), (xt M a).1 = 40 + c → xex[c]? = some nm → xcE K H a nm)
def xH (K : XK) (M : XM) (H : Heap) : Prop := H.size = xB K + xz M ∧ (∀ q : Nat, q ≤ xB K → H[q]? = (xs K).heap[q]?) ∧ (∀ a, a < xz M → xcell K M H a) ∧ (xt M 0).1 = 5
/-- the room for all that is ever made -/
def ZM : Nat := 601025
def UM : Nat := 7293034
/-- what holds at the law's start -/
def xG (K : XK) : Prop := (xs K).heap.size = xB K + 1 ∧ xS K ≤ xB K ∧ (∀ w ∈ lw_tbl, w.before #[.ref (xS K)] (xs K) = true) ∧ (∀ w ∈ ([.isRef (.static Bundle.tN "UNASSIGNED_STACK" Bundle.steD), .isRef (.static Bundle.tN "SUPPRESSED_SENTINEL" Bundle.listD)] : List Cond), w.before #[.ref (xS K)] (xs K) = true) ∧ (xl K).flags = pinnedFlags ++ [noTraceFlag] ∧ (∀ X ∈ xex, ∀ Y ∈ xex, X ≠ Y → va_Nc X Y (xs K))
theorem xa_pos {K : XK} {a : Nat} (h : a ≠ 0) : xa K a = xB K + a := by unfold xa; rw [if_neg h]
theorem xa_inj {K : XK} (G : xG K) {a b : Nat} (h : xa K a = xa K b) : a = b := by
  have g := G.2.1
  unfold xa at h
  split at h <;> split at h <;> omega
theorem xcell_congr {K : XK} {M N : XM} {H J : Heap} {a : Nat} (ht : xt N a = xt M a) (h1 : ∀ i, xi N a i = xi M a i) (h2 : ∀ i, xr N a i = xr M a i) (h3 : ∀ i, xj N a i = xj M a i) (hq : J[xa K a]? = H[xa K a]?) (h : xcell K M H a) : xcell K N J a := by
  obtain ⟨c1, c2, c3⟩ := h
  have e1 : ∀ i, xval K N a i = xval K M a i := fun i => by unfold xval; rw [ht, h1, h2, h3]
  have e2 : ∀ (f : XF) (j : Nat), xfv K N f a j = xfv K M f a j := fun f j => by unfold xfv; rw [h1, h2]
  refine ⟨fun ty k => ?_, fun c q k kq => ?_, fun c nm k kq => ?_⟩
  · obtain ⟨cell, a1, a2, a3, a4, a5⟩ := c1 ty (by rw [← ht]; exact k)
    exact ⟨cell, hq.trans a1, a2, a3, by rw [ht]; exact a4, fun i hi => by rw [e1]; exact a5 i (by rw [← ht]; exact hi)⟩
  · obtain ⟨cell, a1, a2, a3, a4⟩ := c2 c q (by rw [← ht]; exact k) kq
    refine ⟨cell, hq.trans a1, a2, a3, fun j f hf => ?_⟩
    obtain ⟨i, g1, g2⟩ := a4 j f hf
    exact ⟨i, g1, by rw [e2]; exact g2⟩
  · obtain ⟨cell, a1, a2, a3⟩ := c3 c nm (by rw [← ht]; exact k) kq
    exact ⟨cell, hq.trans a1, a2, a3⟩
theorem xval_congr {K : XK} {M N : XM} {a i : Nat} (ht : xt N a = xt M a) (h1 : xi N a i = xi M a i) (h2 : xr N a i = xr M a i) (h3 : xj N a i = xj M a i) : xval K N a i = xval K M a i := by unfold xval; rw [ht, h1, h2, h3]
/-- one cell has changed -/
theorem xH_put {K : XK} (G : xG K) {M N : XM} {H J : Heap} {a : Nat} (hH : xH K M H) (ha : a ≠ 0) (hz : xz N = xz M) (ht : xt N = xt M) (ho : ∀ b, b ≠ a → (∀ i, xi N b i = xi M b i) ∧ (∀ i, xr N b i = xr M b i) ∧ ∀ i, xj N b i = xj M b i)
    (hs : J.size = H.size) (hq : ∀ q, q ≠ xa K a → J[q]? = H[q]?) (hc : xcell K N J a) : xH K N J := by
  obtain ⟨h1, h2, h3, h5⟩ := hH
  refine ⟨by rw [hs, hz]; exact h1, fun q hqB => ?_, fun b hb => ?_, by rw [ht]; exact h5⟩
  · rw [hq q (by rw [xa_pos ha]; omega)]
    exact h2 q hqB
  · by_cases e : b = a
    · rw [e]; exact hc
    · obtain ⟨o1, o2, o3⟩ := ho b e
      exact xcell_congr (by rw [ht]) o1 o2 o3 (hq _ (fun z => e (xa_inj G z))) (h3 b (by rw [← hz]; exact hb))
/-- one cell is new -/
theorem xH_new {K : XK} (G : xG K) {M : XM} {H J : Heap} {k n u : Nat} (hH : xH K M H) (h0 : xz M ≠ 0) (hs : J.size = H.size + 1) (hq : ∀ q, q < H.size → J[q]? = H[q]?) (hc : xcell K (xnw M k n u) J (xz M)) : xH K (xnw M k n u) J := by
  obtain ⟨h1, h2, h3, h5⟩ := hH
  refine ⟨by rw [hs, h1]; rfl, fun q hqB => ?_, fun b hb => ?_, by simp [xnw, xt, Ne.symm h0]; exact h5⟩
  · rw [hq q (by omega)]
    exact h2 q hqB
  · have hb' : b < xz M + 1 := hb
    by_cases e : b = xz M
    · rw [e]; exact hc
    · have hlt : xa K b < H.size := by
        have g := G.2.1
        unfold xa
        split <;> omega
      have en : (b = xz M) = False := eq_false e
      exact xcell_congr (by simp [xnw, xt, en]) (fun i => by simp [xnw, xi, en]) (fun i => by simp [xnw, xr, en]) (fun i => by simp [xnw, xj, en]) (hq _ hlt) (h3 b (by omega))
/-- the same memory, said otherwise outside of what is there -/
theorem xw {K : XK} (G : xG K) {c : Cond} (hc : (c.onTables && c.keeps) = true) (hm : c ∈ lw_tbl) {U : State} (hW : (xs K).WarmedH U.vm) (args : Array Value) : c.before args U = true := word_at hW (Or.inl hc) (G.2.2.1 c hm)
theorem xwA {K : XK} (G : xG K) {ty : FieldType} (hm : Cond.arrayClass ty ∈ lw_tbl) {U : State} (hW : (xs K).WarmedH U.vm) (args : Array Value) : (Cond.arrayClass ty).before args U = true := word_at hW (Or.inr ⟨ty, rfl⟩) (G.2.2.1 _ hm)
theorem xwF {K : XK} (G : xG K) {c : Cond} (hc : c.onTables = true) (hf : c.faceAtom = true) (hm : c ∈ lw_tbl) {U : State} (hW : (xs K).WarmedH U.vm) (args : Array Value) : c.before args U = true := va_tabs hc (rfl : ((xs K).setVm U.vm).vm = U.vm) (Cond.faceAtom_setVm hW.alike c hf (G.2.2.1 c hm))
theorem xwN {K : XK} (G : xG K) {a h : String} {i : Nat} {x : MethodName} (hm : Cond.methodLinkNest a i x h ∈ lw_tbl) {U : State} (hW : (xs K).WarmedH U.vm) (args : Array Value) : (Cond.methodLinkNest a i x h).before args U = true := va_Nw.use rfl (va_Nw.warmM hW (va_Nw.of rfl (G.2.2.1 _ hm)))
/-- the two statics of Throwable -/
theorem xstat {K : XK} (G : xG K) {C n d : String} (hl : Cond.laysStatic C n d ∈ lw_tbl) (hini : Cond.initialized C ∈ lw_tbl) (h : (Cond.isRef (.static C n d)).before #[.ref (xS K)] (xs K) = true) {U : State} (hW : (xs K).WarmedH U.vm) (hq : ∀ q : Nat, q ≤ xB K → U.heap[q]? = (xs K).heap[q]?) (args : Array Value) : (Cond.isRef (.static C n d)).before args U = true := by
  have h1 : va_Zq C n d (fun _ => False) (xs K) (xs K).heap := va_Zqof (G.2.2.1 _ hl) (G.2.2.1 _ hini) h (fun _ _ z => z)
  have h2 := (h1.moved hW.alike).kept (H1 := U.heap) (fun a ha _ => hq a (by have := G.1; omega))
  rcases h2 with ⟨cf, kf, fi, f, a, cell, g1, g2, g3, g4, g5, g6, g7, -⟩ | ⟨t, cf, kf, fi, f, a, cell, g1, g2, g3, g4, g5, g6, g7, -⟩
  · simp [Cond.before, Cond.holds, Cond.value, Term.static_eval (args := args) (first := U) (o := none) (idx := []) g1 g2 g4 g5 g6 g7]
  · simp [Cond.before, Cond.holds, Cond.value, Term.static_eval (args := args) (first := U) (o := none) (idx := []) g1 g2 g4 g5 g6 g7]
