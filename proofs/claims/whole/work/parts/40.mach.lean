/-! the machine: frames (method, next, x, y, stack), state (fields, frames, result) -/
abbrev FR : Type := Nat × Nat × Int32 × Int32 × List Int32
abbrev ST : Type := (Nat → Int32) × List FR × Int32
abbrev SR : Type := ST ⊕ Nat
def pushV (vs : Nat → Int32) (r : Int32) (t : List FR) (fr : FR) (v : Int32) : SR :=
  if fr.2.2.2.2.length < 8 then .inl (vs, (fr.1, fr.2.1, fr.2.2.1, fr.2.2.2.1, v :: fr.2.2.2.2) :: t, r) else .inr 0
def beginV (vs : Nat → Int32) (r : Int32) (fs : List FR) (m : Nat) (x y : Int32) : SR := if fs.length < 8 then .inl (vs, (m, 0, x, y, []) :: fs, r) else .inr 0
def endV (vs : Nat → Int32) (r : Int32) (t : List FR) (v : Int32) : SR := match t with
  | [] => .inl (vs, [], v)
  | fr :: t' => pushV vs r t' fr v
def popV (st : List Int32) (k : Int32 → List Int32 → SR) : SR := match st with
  | [] => .inr 0
  | v :: t => k v t
def calcV (vs : Nat → Int32) (r : Int32) (t : List FR) (fr : FR) (w : Int32) : SR := popV fr.2.2.2.2 fun b st1 => popV st1 fun a st2 =>
  if w = 8 ∧ b = 0 then .inr 3 else pushV vs r t (fr.1, fr.2.1, fr.2.2.1, fr.2.2.2.1, st2) (if w = 5 then a + b else if w = 6 then a - b else if w = 7 then a * b else a / b)
def invV (pr : PR) (vs : Nat → Int32) (r : Int32) (t : List FR) (fr : FR) (k : Nat) : SR := match pr.2[k]? with
  | none => .inr 0
  | some c =>
    if c.2.2.1 = 2 then popV fr.2.2.2.2 fun y st1 => popV st1 fun x st2 => beginV vs r ((fr.1, fr.2.1, fr.2.2.1, fr.2.2.2.1, st2) :: t) k x y
    else if c.2.2.1 = 1 then popV fr.2.2.2.2 fun x st1 => beginV vs r ((fr.1, fr.2.1, fr.2.2.1, fr.2.2.2.1, st1) :: t) k x 0
    else beginV vs r (fr :: t) k 0 0
/-- one instruction; the frame's next is already the one behind it -/
def instV (pr : PR) (cl : List CT) (vs : Nat → Int32) (r : Int32) (t : List FR) (fr : FR) (i : IN) : SR :=
  if i.1 = 0 then pushV vs r t fr (firstV cl i.2)
  else if i.1 = 1 then pushV vs r t fr (vs (meantV pr cl i.2 3).toNatClampNeg)
  else if i.1 = 2 then popV fr.2.2.2.2 fun v st => .inl ((fun j => if j = (meantV pr cl i.2 3).toNatClampNeg then v else vs j), (fr.1, fr.2.1, fr.2.2.1, fr.2.2.2.1, st) :: t, r)
  else if i.1 = 3 then invV pr vs r t fr (meantV pr cl i.2 4).toNatClampNeg
  else if i.1 = 4 then pushV vs r t fr (if i.2 = 0 then fr.2.2.1 else fr.2.2.2.1)
  else if i.1 = 9 then popV fr.2.2.2.2 fun v st => .inl (vs, (fr.1, (if v = 0 then i.2.toNatClampNeg else fr.2.1), fr.2.2.1, fr.2.2.2.1, st) :: t, r)
  else if i.1 = 10 then .inl (vs, (fr.1, i.2.toNatClampNeg, fr.2.2.1, fr.2.2.2.1, fr.2.2.2.2) :: t, r)
  else if i.1 = 11 then popV fr.2.2.2.2 fun v _ => endV vs r t v
  else if i.1 = 12 then popV fr.2.2.2.2 fun _ _ => .inr 4
  else calcV vs r t fr i.1
def stepV (pr : PR) (s : ST) : SR := match s.2.1 with
  | [] => .inr 0
  | fr :: t => match pr.2[fr.1]? with
    | none => .inr 0
    | some b => match b.2.2.2.2[fr.2.1]? with
      | none => .inr 0
      | some i => instV pr ((lk pr.1 b.1).getD []) s.1 s.2.2 t (fr.1, fr.2.1 + 1, fr.2.2.1, fr.2.2.2.1, fr.2.2.2.2) i
def runV (pr : PR) : Nat → ST → AR
  | 0, _ => .inr 0
  | n + 1, s => match stepV pr s with
    | .inr e => .inr e
    | .inl s' => if s'.2.1.length = 0 then .inl s'.2.2 else runV pr n s'
/-! how the class holds it -/
def StkIs (M : XM) (a o : Nat) : List Int32 → Prop
  | [] => True
  | v :: t => xi M a (o + t.length) = v ∧ StkIs M a o t
theorem StkIs.congr {M N : XM} {a o : Nat} : ∀ {l : List Int32}, StkIs M a o l → (∀ j, o ≤ j → j < o + l.length → xi N a j = xi M a j) → StkIs N a o l
  | [], _, _ => trivial
  | v :: t, h, e => ⟨by rw [e _ (by omega) (by simp)]; exact h.1, StkIs.congr h.2 fun j h1 h2 => e j h1 (by simp; omega)⟩
def FrC (M : XM) (P f : Nat) (fr : FR) : Prop := xr M (252 + 2 * f) 2 = some (P + 27 + 3 * fr.1) ∧ xi M (252 + 2 * f) 3 = nI fr.2.1 ∧ xi M (252 + 2 * f) 4 = fr.2.2.1 ∧ xi M (252 + 2 * f) 5 = fr.2.2.2.1 ∧ xi M (252 + 2 * f) 1 = nI fr.2.2.2.2.length ∧ fr.2.2.2.2.length ≤ 8 ∧ StkIs M (253 + 2 * f) 0 fr.2.2.2.2
def FsC (M : XM) (P : Nat) : List FR → Prop
  | [] => True
  | fr :: t => FrC M P t.length fr ∧ FsC M P t
theorem FrC.congr {M N : XM} {P f : Nat} {fr : FR} (h : FrC M P f fr) (e1 : xi N (252 + 2 * f) = xi M (252 + 2 * f)) (e2 : xi N (253 + 2 * f) = xi M (253 + 2 * f)) (e3 : xr N (252 + 2 * f) 2 = xr M (252 + 2 * f) 2) : FrC N P f fr := by
  unfold FrC at *
  rw [e1, e3]
  exact ⟨h.1, h.2.1, h.2.2.1, h.2.2.2.1, h.2.2.2.2.1, h.2.2.2.2.2.1, h.2.2.2.2.2.2.congr fun j _ _ => by rw [e2]⟩
theorem FsC.congr {M N : XM} {P : Nat} : ∀ {l : List FR}, FsC M P l → (∀ a, 252 ≤ a → a < 252 + 2 * l.length → xi N a = xi M a ∧ xr N a 2 = xr M a 2) → FsC N P l
  | [], _, _ => trivial
  | fr :: t, h, e => ⟨h.1.congr (e _ (by omega) (by simp only [List.length_cons]; omega)).1 (e _ (by omega) (by simp only [List.length_cons]; omega)).1 (e _ (by omega) (by simp only [List.length_cons]; omega)).2, FsC.congr h.2 fun a h1 h2 => e a h1 (by simp only [List.length_cons]; omega)⟩
def StC (M : XM) (P : Nat) (s : ST) : Prop := (∀ k, k < 30 → xi M 250 k = s.1 k) ∧ s.2.1.length ≤ 8 ∧ xi M 249 2 = nI s.2.1.length ∧ FsC M P s.2.1 ∧ (s.2.1.length = 0 → xi M 249 3 = s.2.2)
def UpdE (M N : XM) : Prop := xz N = xz M ∧ xu N = xu M ∧ xt N = xt M ∧ xj N = xj M ∧ (∀ a j, a < 252 ∨ 268 ≤ a ∨ j ≠ 2 → xr N a j = xr M a j) ∧ ∀ a, a < 249 ∨ 268 ≤ a → xi N a = xi M a
theorem UpdE.rf {M : XM} : UpdE M M := ⟨rfl, rfl, rfl, rfl, fun _ _ _ => rfl, fun _ _ => rfl⟩
theorem UpdE.pi {M N : XM} {a i : Nat} {v : Int32} (h : UpdE M N) (h1 : 249 ≤ a) (h2 : a < 268) : UpdE M (xpi N a i v) :=
  ⟨h.1, h.2.1, h.2.2.1, h.2.2.2.1, h.2.2.2.2.1, fun b hb => (xi_row (by omega)).trans (h.2.2.2.2.2 b hb)⟩
theorem xr_eq (M : XM) (a i v : Nat) : xr (xpr M a i v) a i = some v := by show (if a = a ∧ i = i then some v else _) = some v; rw [if_pos ⟨rfl, rfl⟩]
theorem xr_ne {M : XM} {a i b j v : Nat} (h : b ≠ a ∨ j ≠ i) : xr (xpr M a i v) b j = xr M b j := by
  show (if b = a ∧ j = i then some v else _) = _
  rw [if_neg (by omega)]
theorem UpdE.pr {M N : XM} {a v : Nat} (h : UpdE M N) (h1 : 252 ≤ a) (h2 : a < 268) : UpdE M (xpr N a 2 v) :=
  ⟨h.1, h.2.1, h.2.2.1, h.2.2.2.1, fun b j hb => (xr_ne (by omega)).trans (h.2.2.2.2.1 b j hb), h.2.2.2.2.2⟩
theorem UpdE.tr {M N K : XM} (h : UpdE M N) (g : UpdE N K) : UpdE M K :=
  ⟨g.1.trans h.1, g.2.1.trans h.2.1, g.2.2.1.trans h.2.2.1, g.2.2.2.1.trans h.2.2.2.1, fun a j hb => (g.2.2.2.2.1 a j hb).trans (h.2.2.2.2.1 a j hb), fun b hb => (g.2.2.2.2.2 b hb).trans (h.2.2.2.2.2 b hb)⟩
theorem UpdE.prog {M N : XM} {P : Nat} (h : UpdE M N) (hA : ProgAt M P) (hP : P + 117 ≤ 249) : ProgAt N P := by
  have hr := h.2.2.2.2.1
  obtain ⟨a1, a2, a3, a4, a5, a6, a7, a8⟩ := hA
  refine ⟨by rw [h.1]; exact a1, by rw [h.2.2.1]; exact a2, by rw [h.2.2.1]; exact a3, by rw [h.2.2.1]; exact a4, by rw [hr _ _ (by omega)]; exact a5, by rw [hr _ _ (by omega)]; exact a6, fun c hc => ?_, fun m hm => ?_⟩
  · obtain ⟨b1, b2⟩ := a7 c hc
    refine ⟨by rw [hr _ _ (by omega)]; exact b1, ?_⟩
    unfold PoolAt at *
    rw [h.1, h.2.2.1, hr _ 0 (by omega), hr _ 1 (by omega), hr _ 2 (by omega)]
    exact b2
  · obtain ⟨b1, b2⟩ := a8 m hm
    refine ⟨by rw [hr _ _ (by omega)]; exact b1, ?_⟩
    unfold MembAt at *
    rw [h.1, h.2.2.1, hr _ 5 (by omega), hr _ 6 (by omega)]
    exact b2
theorem UpdE.lay {M N : XM} (h : UpdE M N) (hL : Lay M) : Lay N := by
  have hr := h.2.2.2.2.1
  obtain ⟨l0, l1, l2, l3, l4, l5, l6, p1, p2, hS, hE, hR⟩ := hL
  refine ⟨by rw [h.1]; exact l0, by rw [h.2.2.1]; exact l1, by rw [hr _ _ (by omega)]; exact l2, by rw [hr _ _ (by omega)]; exact l3, by rw [hr _ _ (by omega)]; exact l4, by rw [hr _ _ (by omega)]; exact l5, by rw [h.2.2.1]; exact l6, h.prog p1 (by omega), h.prog p2 (by omega), ?_, ?_, ?_⟩
  · obtain ⟨a1, a2, a3, a4, a5, a6, a7, a8, b1, b2, b3, b4, b5, b6, b7⟩ := hS
    unfold ShakAt
    rw [h.1, h.2.2.1, hr _ 0 (by omega), hr _ 1 (by omega), hr _ 2 (by omega), hr _ 3 (by omega), hr _ 4 (by omega), hr _ 5 (by omega)]
    exact ⟨a1, a2, a3, a4, a5, a6, a7, a8, b1, b2, b3, b4, b5, b6, fun c hc => ⟨by rw [hr _ _ (by omega)]; exact (b7 c hc).1, (b7 c hc).2⟩⟩
  · obtain ⟨a1, a2, a3, a4, a5, a6, a7⟩ := hE
    unfold MachAt
    rw [h.1, h.2.2.1, hr _ 0 (by omega), hr _ 1 (by omega)]
    exact ⟨a1, a2, a3, a4, a5, a6, fun f hf => ⟨by rw [hr _ _ (by omega)]; exact (a7 f hf).1, (a7 f hf).2.1, (a7 f hf).2.2.1, by rw [hr _ _ (by omega)]; exact (a7 f hf).2.2.2⟩⟩
  · obtain ⟨a1, a2, a3⟩ := hR
    unfold RefAt
    rw [h.1, h.2.2.1]
    exact ⟨a1, a2, fun q hq => ⟨by rw [hr _ _ (by omega)]; exact (a3 q hq).1, (a3 q hq).2⟩⟩
def Ctx (M : XM) (P : Nat) (pr : PR) : Prop := Lay M ∧ xz M < ZM ∧ xu M + 6 ≤ UM ∧ ProgAt M P ∧ RepC M P pr ∧ P + 117 ≤ 249
theorem Ctx.lay {M : XM} {P : Nat} {pr : PR} (c : Ctx M P pr) : Lay M := c.1
theorem Ctx.z {M : XM} {P : Nat} {pr : PR} (c : Ctx M P pr) : xz M < ZM := c.2.1
theorem Ctx.u {M : XM} {P : Nat} {pr : PR} (c : Ctx M P pr) : xu M + 6 ≤ UM := c.2.2.1
theorem Ctx.at' {M : XM} {P : Nat} {pr : PR} (c : Ctx M P pr) : ProgAt M P := c.2.2.2.1
theorem Ctx.rep {M : XM} {P : Nat} {pr : PR} (c : Ctx M P pr) : RepC M P pr := c.2.2.2.2.1
theorem Ctx.le {M : XM} {P : Nat} {pr : PR} (c : Ctx M P pr) : P + 117 ≤ 249 := c.2.2.2.2.2
theorem UpdE.ctx {M N : XM} {P : Nat} {pr : PR} (h : UpdE M N) (c : Ctx M P pr) : Ctx N P pr :=
  ⟨h.lay c.lay, by rw [h.1]; exact c.z, by rw [h.2.1]; exact c.u, h.prog c.at' c.le, c.rep.congr fun b _ _ => h.2.2.2.2.2 b (by have := c.le; omega), c.le⟩
def OkS (M : XM) (P : Nat) (g : XP) (r : SR) : Prop := match r with
  | .inl s => ∃ N, g = rV N ∧ UpdE M N ∧ StC N P s
  | .inr e => ∃ N, g = some (.inr (xz M), xnw N (40 + e) 0 6) ∧ UpdE M N
theorem OkS.tr {M N : XM} {P : Nat} {g : XP} {r : SR} (h : UpdE M N) (k : OkS N P g r) : OkS M P g r := by
  unfold OkS at *
  split at k
  · obtain ⟨K, k1, k2, k3⟩ := k
    exact ⟨K, k1, h.tr k2, k3⟩
  · obtain ⟨K, k1, k2⟩ := k
    exact ⟨K, by rw [k1, h.1], h.tr k2⟩
theorem OkS.cV {M : XM} {P : Nat} {g : XP} {r : SR} (k : OkS M P g r) : OkS M P (cV g fun M2 => some (.inl none, M2)) r := by
  unfold OkS at *
  split at k
  · obtain ⟨K, k1, k2, k3⟩ := k
    exact ⟨K, by rw [k1]; rfl, k2, k3⟩
  · obtain ⟨K, k1, k2⟩ := k
    exact ⟨K, by rw [k1]; rfl, k2⟩
section PMC
variable {M : XM} {P : Nat} {pr : PR} {vs : Nat → Int32} {r : Int32} {t : List FR} {fr : FR} {m n : Nat} {x y v : Int32} {st : List Int32}
theorem OkS.x0 {M : XM} {P : Nat} {e : Nat} (c : Ctx M P pr) : OkS M P (tX M e) (.inr e) := ⟨M, tX_e c.z c.u, UpdE.rf⟩
theorem StC.stk (h : StC M P (vs, fr :: t, r)) : t.length < 8 := by have := h.2.1; simp at this; omega
theorem s_F_put (c : Ctx M P pr) (h : StC M P (vs, fr :: t, r)) (v : Int32) : OkS M P (g_F_put (252 + 2 * t.length) v M) (pushV vs r t fr v) := by
  obtain ⟨m, n, x, y, st⟩ := fr
  have ht := h.stk
  obtain ⟨l0, l1, l2, l3, l4, l5, l6, p1, p2, hS, hE, hR⟩ := id c.lay
  have hE1 := hE.1
  obtain ⟨h1, h2, h3, ⟨⟨f1, f2, f3, f4, f5, f6, f7⟩, h4⟩, h5⟩ := h
  obtain ⟨e1, e2, e3, e4⟩ := hE.2.2.2.2.2.2 t.length ht
  simp only at f1 f2 f3 f4 f5 f6 f7 h1 h2 h3
  unfold g_F_put pushV
  rw [gI_e (by omega) e2, f5]
  simp only
  by_cases hl : st.length < 8
  · have g2 : xi (xpi M (253 + 2 * t.length) st.length v) (252 + 2 * t.length) 1 = nI st.length := by rw [xi_ne1 (by omega)]; exact f5
    rw [if_pos (show nI st.length < 8 from nI_lt (b := 8) hl (by decide)), if_pos hl, gR_e (by omega) e2 e4, gI_e (by omega) e2, f5, sI_e (by omega) e3 hl (by decide), gI_e (M := xpi M _ _ _) (by show _ < xz M; omega) e2, g2, nI_1, uI_e (M := xpi M _ _ _) (by show _ < xz M; omega) e2]
    refine ⟨_, rfl, (UpdE.rf.pi (by omega) (by omega)).pi (by omega) (by omega), fun k hk => ?_, h2, ?_, ⟨⟨f1, ?_, ?_, ?_, ?_, by simp only [List.length_cons]; omega, ?_, ?_⟩, h4.congr fun a ha1 ha2 => ⟨by rw [xi_row (by omega), xi_row (by omega)], rfl⟩⟩, fun e => by simp at e⟩
    · rw [xi_ne1 (by omega), xi_ne1 (by omega)]; exact h1 k hk
    · rw [xi_ne1 (by omega), xi_ne1 (by omega)]; exact h3
    · rw [xi_no (by omega), xi_no (by omega)]; exact f2
    · rw [xi_no (by omega), xi_no (by omega)]; exact f3
    · rw [xi_no (by omega), xi_no (by omega)]; exact f4
    · rw [xi_eq]; rfl
    · rw [xi_ne1 (by omega), show 0 + st.length = st.length by omega, xi_eq]
    · exact f7.congr fun j _ hj => by rw [xi_no (by omega), xi_no (by omega)]
  · rw [if_neg (show ¬ nI st.length < 8 from nI_nlt (b := 8) (by omega) (by omega)), if_neg hl]
    exact OkS.x0 c
theorem s_F_take0 (c : Ctx M P pr) (h : StC M P (vs, (m, n, x, y, []) :: t, r)) : g_F_take (252 + 2 * t.length) M = some (.inr (xz M), xnw M 40 0 6) := by
  have ht := h.stk
  obtain ⟨l0, l1, l2, l3, l4, l5, l6, p1, p2, hS, hE, hR⟩ := id c.lay
  have hE1 := hE.1
  obtain ⟨e1, e2, e3, e4⟩ := hE.2.2.2.2.2.2 t.length ht
  unfold g_F_take
  rw [gI_e (by omega) e2, show xi M (252 + 2 * t.length) 1 = nI 0 from h.2.2.2.1.1.2.2.2.2.1, if_neg (show ¬ (0 : Int32) < nI 0 by decide), tX_e c.z c.u]
theorem s_F_take (c : Ctx M P pr) (h : StC M P (vs, (m, n, x, y, v :: st) :: t, r)) : ∃ N, g_F_take (252 + 2 * t.length) M = rI v N ∧ UpdE M N ∧ StC N P (vs, (m, n, x, y, st) :: t, r) := by
  have ht := h.stk
  obtain ⟨l0, l1, l2, l3, l4, l5, l6, p1, p2, hS, hE, hR⟩ := id c.lay
  have hE1 := hE.1
  obtain ⟨h1, h2, h3, ⟨⟨f1, f2, f3, f4, f5, f6, f7, f8⟩, h4⟩, h5⟩ := h
  obtain ⟨e1, e2, e3, e4⟩ := hE.2.2.2.2.2.2 t.length ht
  simp only [List.length_cons] at f1 f2 f3 f4 f5 f6 f7 f8 h1 h2 h3
  rw [show 0 + st.length = st.length by omega] at f7
  refine ⟨xpi M (252 + 2 * t.length) 1 (nI st.length), ?_, UpdE.rf.pi (by omega) (by omega), fun k hk => ?_, h2, ?_, ⟨⟨f1, ?_, ?_, ?_, ?_, by simp only; omega, ?_⟩, h4.congr fun a ha1 ha2 => ⟨by rw [xi_row (by omega)], rfl⟩⟩, fun e => by simp at e⟩
  · unfold g_F_take
    rw [gI_e (by omega) e2, f5, if_pos (show (0 : Int32) < nI (st.length + 1) from nI_lt (a := 0) (by omega) (by omega)), gI_e (by omega) e2, f5, nI_pred, uI_e (by omega) e2, gR_e (M := xpi M _ _ _) (by show _ < xz M; omega) e2 e4, gI_e (M := xpi M _ _ _) (by show _ < xz M; omega) e2, xi_eq, aI_e (M := xpi M _ _ _) (by show _ < xz M; omega) e3 (by omega) (by decide), xi_ne1 (by omega), f7]
  · rw [xi_ne1 (by omega)]; exact h1 k hk
  · rw [xi_ne1 (by omega)]; exact h3
  · rw [xi_no (by omega)]; exact f2
  · rw [xi_no (by omega)]; exact f3
  · rw [xi_no (by omega)]; exact f4
  · rw [xi_eq]
  · exact f8.congr fun j _ hj => by rw [xi_no (by omega)]
theorem s_E_begin (c : Ctx M P pr) {fs : List FR} (h : StC M P (vs, fs, r)) (m : Nat) (x y : Int32) : OkS M P (g_E_begin 249 (P + 27 + 3 * m) x y M) (beginV vs r fs m x y) := by
  obtain ⟨l0, l1, l2, l3, l4, l5, l6, p1, p2, hS, hE, hR⟩ := id c.lay
  have hE1 := hE.1
  obtain ⟨h1, h2, h3, h4, h5⟩ := h
  simp only at h1 h2 h3 h4
  unfold g_E_begin beginV
  rw [gI_e (by omega) hE.2.1, h3]
  by_cases hl : fs.length < 8
  · obtain ⟨e1, e2, e3, e4⟩ := hE.2.2.2.2.2.2 fs.length hl
    rw [if_pos (show nI fs.length < 8 from nI_lt (b := 8) hl (by decide)), if_pos hl, gR_e (by omega) hE.2.1 hE.2.2.2.2.2.1, gI_e (by omega) hE.2.1, h3, aR_e (by omega) hE.2.2.2.1 hl (by decide) e1, rv_e (by omega) e2]
    unfold g_F_start
    rw [uR_e (by omega) e2, uI_e (M := xpr M _ _ _) (by show _ < xz M; omega) e2, uI_e (M := xpi (xpr M _ _ _) _ _ _) (by show _ < xz M; omega) e2, uI_e (M := xpi (xpi (xpr M _ _ _) _ _ _) _ _ _) (by show _ < xz M; omega) e2, uI_e (M := xpi (xpi (xpi (xpr M _ _ _) _ _ _) _ _ _) _ _ _) (by show _ < xz M; omega) e2, cV_e]
    have g3 : xi (xpi (xpi (xpi (xpi (xpr M (252 + 2 * fs.length) 2 (P + 27 + 3 * m)) (252 + 2 * fs.length) 4 x) (252 + 2 * fs.length) 5 y) (252 + 2 * fs.length) 1 0) (252 + 2 * fs.length) 3 0) 249 2 = nI fs.length := by
      rw [xi_ne1 (by omega), xi_ne1 (by omega), xi_ne1 (by omega), xi_ne1 (by omega)]; exact h3
    rw [gI_e (M := xpi (xpi (xpi (xpi (xpr M _ _ _) _ _ _) _ _ _) _ _ _) _ _ _) (by show _ < xz M; omega) hE.2.1, g3, nI_1, uI_e (M := xpi (xpi (xpi (xpi (xpr M _ _ _) _ _ _) _ _ _) _ _ _) _ _ _) (by show _ < xz M; omega) hE.2.1]
    refine ⟨_, rfl, (((((UpdE.rf.pr (by omega) (by omega)).pi (by omega) (by omega)).pi (by omega) (by omega)).pi (by omega) (by omega)).pi (by omega) (by omega)).pi (by omega) (by omega), fun k hk => ?_, by simp only [List.length_cons]; omega, by rw [xi_eq]; simp only [List.length_cons], ⟨⟨xr_eq _ _ _ _, ?_, ?_, ?_, ?_, Nat.zero_le _, trivial⟩, h4.congr fun a ha1 ha2 => ⟨?_, ?_⟩⟩, fun e => by simp at e⟩
    · rw [xi_ne1 (by omega), xi_ne1 (by omega), xi_ne1 (by omega), xi_ne1 (by omega), xi_ne1 (by omega)]; exact h1 k hk
    · rw [xi_ne1 (by omega), xi_eq]; rfl
    · rw [xi_ne1 (by omega), xi_no (by omega), xi_no (by omega), xi_no (by omega), xi_eq]
    · rw [xi_ne1 (by omega), xi_no (by omega), xi_no (by omega), xi_eq]
    · rw [xi_ne1 (by omega), xi_no (by omega), xi_eq]; rfl
    · rw [xi_row (by omega), xi_row (by omega), xi_row (by omega), xi_row (by omega), xi_row (by omega)]; rfl
    · exact xr_ne (Or.inl (by omega))
  · rw [if_neg (show ¬ nI fs.length < 8 from nI_nlt (b := 8) (by omega) (by omega)), if_neg hl]
    exact OkS.x0 c
theorem s_E_end (c : Ctx M P pr) (h : StC M P (vs, fr :: t, r)) (v : Int32) : OkS M P (g_E_end 249 v M) (endV vs r t v) := by
  obtain ⟨l0, l1, l2, l3, l4, l5, l6, p1, p2, hS, hE, hR⟩ := id c.lay
  have hE1 := hE.1
  have ht := h.stk
  obtain ⟨h1, h2, h3, ⟨-, h4⟩, h5⟩ := h
  simp only [List.length_cons] at h1 h2 h3
  unfold g_E_end endV
  rw [gI_e (by omega) hE.2.1, h3, nI_pred, uI_e (by omega) hE.2.1, gI_e (M := xpi _ _ _ _) (by show _ < xz M; omega) hE.2.1, xi_eq]
  have hU : UpdE M (xpi M 249 2 (nI t.length)) := UpdE.rf.pi (by omega) (by omega)
  cases t with
  | nil =>
    rw [if_neg (fun h => h rfl), uI_e (M := xpi _ _ _ _) (by show _ < xz M; omega) hE.2.1]
    refine ⟨_, rfl, hU.pi (by omega) (by omega), fun k hk => ?_, Nat.zero_le _, ?_, trivial, fun _ => xi_eq _ _ _ _⟩
    · rw [xi_ne1 (by omega), xi_ne1 (by omega)]; exact h1 k hk
    · rw [xi_no (by omega), xi_eq]
  | cons fr' t' =>
    simp only [List.length_cons] at *
    obtain ⟨e1, e2, e3, e4⟩ := hE.2.2.2.2.2.2 t'.length (by omega)
    rw [if_pos (fun h => by have := (nI_eq (a := t'.length + 1) (b := 0) (by omega) (by omega)).mp h; omega), gR_e (M := xpi _ _ _ _) (by show _ < xz M; omega) hE.2.1 hE.2.2.2.2.2.1, gI_e (M := xpi _ _ _ _) (by show _ < xz M; omega) hE.2.1, xi_eq, nI_pred, aR_e (M := xpi _ _ _ _) (by show _ < xz M; omega) hE.2.2.2.1 (by omega) (by decide) e1, rv_e (M := xpi _ _ _ _) (by show _ < xz M; omega) e2]
    have hs : StC (xpi M 249 2 (nI (t'.length + 1))) P (vs, fr' :: t', r) := by
      refine ⟨fun k hk => ?_, by simp only [List.length_cons]; omega, by simp only [List.length_cons]; exact xi_eq _ _ _ _, h4.congr fun a ha1 ha2 => ⟨xi_row (by omega), rfl⟩, fun e => by simp at e⟩
      rw [xi_ne1 (by omega)]; exact h1 k hk
    exact OkS.tr hU (OkS.cV (s_F_put (hU.ctx c) hs v))
end PMC
