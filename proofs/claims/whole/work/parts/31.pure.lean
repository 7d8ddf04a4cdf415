/-! programs as lists: a constant (kind, first, second), an instruction (what, number), a member (owner, name's place, arguments, entry, code) -/
abbrev CT : Type := Int32 × Int32 × Int32
abbrev IN : Type := Int32 × Int32
abbrev MB : Type := Int32 × Int32 × Int32 × Int32 × List IN
abbrev PR : Type := List (List CT) × List MB
def lk {α : Type} (l : List α) (x : Int32) : Option α := if x < 0 then none else l[x.toNatClampNeg]?
theorem lk_nI {α : Type} {l : List α} {j : Nat} (h : j < 2 ^ 31) : lk l (nI j) = l[j]? := by unfold lk; rw [if_neg (nI_pos h), nI_clamp h]
theorem lk_lo {α : Type} {l : List α} {x : Int32} (h : x < 0) : lk l x = none := by unfold lk; rw [if_pos h]
theorem lk_hi {α : Type} {l : List α} {x : Int32} (hl : l.length < 2 ^ 31) (h : nI l.length ≤ x) : lk l x = none := by
  have h0 : 0 ≤ x.toInt := by
    have := Int32.le_iff_toInt_le.mp h
    rw [nI_toInt hl] at this
    omega
  unfold lk
  split
  · rfl
  · rw [List.getElem?_eq_none_iff]
    have h1 := Int32.le_iff_toInt_le.mp h
    rw [nI_toInt hl] at h1
    have h2 : x.toNatClampNeg = x.toInt.toNat := rfl
    omega
theorem lk_cases {α : Type} (l : List α) (x : Int32) (hl : l.length < 2 ^ 31) : (lk l x = none ∧ (x < 0 ∨ nI l.length ≤ x)) ∨ ∃ (j : Nat) (q : α), x = nI j ∧ j < l.length ∧ l[j]? = some q ∧ lk l x = some q := by
  rcases pk_ix x hl with h | h | ⟨j, hj, rfl⟩
  · exact Or.inl ⟨lk_lo h, Or.inl h⟩
  · exact Or.inl ⟨lk_hi hl h, Or.inr h⟩
  · exact Or.inr ⟨j, l[j], rfl, hj, List.getElem?_eq_getElem hj, by rw [lk_nI (by omega)]; exact List.getElem?_eq_getElem hj⟩
theorem lk_some {α : Type} {l : List α} {x : Int32} {q : α} (hl : l.length < 2 ^ 31) (h : lk l x = some q) : ∃ j : Nat, x = nI j ∧ j < l.length ∧ l[j]? = some q := by
  rcases lk_cases l x hl with ⟨h1, -⟩ | ⟨j, q', h1, h2, h3, h4⟩
  · rw [h1] at h; cases h
  · rw [h4] at h; cases h; exact ⟨j, h1, h2, h3⟩
def isF (b : MB) : Bool := decide (b.2.2.1 = -1)
def firstV (cl : List CT) (x : Int32) : Int32 := match lk cl x with
  | some q => q.2.1
  | none => 0
def nameV (pr : PR) (b : MB) : Int32 := match lk pr.1 b.1 with
  | some cl => firstV cl b.2.1
  | none => 0
def fnd (p : MB → Bool) : List MB → Nat → Int32
  | [], _ => -1
  | b :: t, i => if p b = true then nI i else fnd p t (i + 1)
def findP (pr : PR) (ow nm : Int32) (fl : Bool) (b : MB) : Bool := decide (b.1 = ow) && (isF b == fl) && decide (nameV pr b = nm)
def findV (pr : PR) (ow nm : Int32) (fl : Bool) : Int32 := fnd (findP pr ow nm fl) pr.2 0
def meantV (pr : PR) (cl : List CT) (x : Int32) (kind : Int32) : Int32 := match lk cl x with
  | some q => if q.1 = kind then findV pr (firstV cl q.2.1) (firstV cl q.2.2) (decide (kind = 3)) else -1
  | none => -1
def holdsV (cl : List CT) (x kind : Int32) : Bool := match lk cl x with
  | some q => decide (q.1 = kind)
  | none => false
def inV (x : Int32) (n : Int32) : Bool := !(decide (x < 0)) && !(decide (n ≤ x))
def soundV (pr : PR) (b : MB) (i : IN) : Bool :=
  let cl := (lk pr.1 b.1).getD []
  if i.1 = 0 then holdsV cl i.2 0
  else if i.1 = 1 ∨ i.1 = 2 then !(decide (meantV pr cl i.2 3 = -1))
  else if i.1 = 3 then !(decide (meantV pr cl i.2 4 = -1))
  else if i.1 = 4 then inV i.2 b.2.2.1
  else if i.1 = 9 ∨ i.1 = 10 then inV i.2 (nI b.2.2.2.2.length)
  else true
def ffI (pr : PR) (b : MB) : List IN → Nat → Option Nat
  | [], _ => none
  | i :: t, k => if soundV pr b i = true then ffI pr b t (k + 1) else some k
def ffM (pr : PR) : List MB → Nat → Int32
  | [], _ => -1
  | b :: t, m => match ffI pr b b.2.2.2.2 0 with
    | some k => 100 * nI m + nI k
    | none => ffM pr t (m + 1)
def faultV (pr : PR) : Int32 := ffM pr pr.2 0
def entV : List MB → Int32 → Int32
  | [], n => n
  | b :: t, n => entV t (if b.2.2.2.1 = 0 then n else n + 1)
/-- what a constant, a member may be -/
def okC (n : Nat) (cl : List CT) (q : CT) : Prop := q.1 = 0 ∨ (q.1 = 1 ∧ ∃ k : Nat, k < 100 ∧ q.2.1 = nI k) ∨ (q.1 = 2 ∧ ∃ c : Nat, c < n ∧ q.2.1 = nI c) ∨ ((q.1 = 3 ∨ q.1 = 4) ∧ (∃ r, lk cl q.2.1 = some r ∧ r.1 = 2) ∧ ∃ r, lk cl q.2.2 = some r ∧ r.1 = 1)
def okM (pr : PR) (b : MB) : Prop := (∃ cl q, lk pr.1 b.1 = some cl ∧ lk cl b.2.1 = some q ∧ q.1 = 1) ∧ (b.2.2.1 = -1 ∨ b.2.2.1 = 0 ∨ b.2.2.1 = 1 ∨ b.2.2.1 = 2) ∧ (b.2.2.2.1 = 0 ∨ b.2.2.2.1 = 1) ∧ (b.2.2.1 = -1 → b.2.2.2.1 = 0 ∧ b.2.2.2.2 = []) ∧ ∀ i ∈ b.2.2.2.2, ∃ w : Nat, w < 13 ∧ i.1 = nI w
def WF (pr : PR) : Prop := (∀ cl ∈ pr.1, ∀ q ∈ cl, okC pr.1.length cl q) ∧ ∀ b ∈ pr.2, okM pr b
/-! how the class and the reference hold them -/
def PoolIs (M : XM) (a : Nat) (cl : List CT) : Prop := cl.length ≤ 20 ∧ xi M a 3 = nI cl.length ∧ ∀ (j : Nat) (q : CT), cl[j]? = some q → xi M (a + 1) j = q.1 ∧ xi M (a + 2) j = q.2.1 ∧ xi M (a + 3) j = q.2.2
def MembIs (M : XM) (a : Nat) (b : MB) : Prop := xi M a 0 = b.1 ∧ xi M a 1 = b.2.1 ∧ xi M a 2 = b.2.2.1 ∧ xi M a 3 = b.2.2.2.1 ∧ xi M a 4 = nI b.2.2.2.2.length ∧ b.2.2.2.2.length ≤ 20 ∧ ∀ (k : Nat) (i : IN), b.2.2.2.2[k]? = some i → xi M (a + 1) k = i.1 ∧ xi M (a + 2) k = i.2
def RepC (M : XM) (P : Nat) (pr : PR) : Prop := pr.1.length ≤ 6 ∧ xi M P 2 = nI pr.1.length ∧ pr.2.length ≤ 30 ∧ xi M P 3 = nI pr.2.length ∧ (∀ (c : Nat) (cl : List CT), pr.1[c]? = some cl → PoolIs M (P + 3 + 4 * c) cl) ∧ ∀ (m : Nat) (b : MB), pr.2[m]? = some b → MembIs M (P + 27 + 3 * m) b
def RepR (M : XM) (p : Nat) (pr : PR) : Prop := pr.1.length ≤ 6 ∧ xi M 269 p = nI pr.1.length ∧ pr.2.length ≤ 30 ∧ xi M 270 p = nI pr.2.length ∧
  (∀ (c : Nat) (cl : List CT), pr.1[c]? = some cl → cl.length ≤ 20 ∧ xi M 271 (6 * p + c) = nI cl.length ∧ ∀ (j : Nat) (q : CT), cl[j]? = some q → xi M 272 (120 * p + 20 * c + j) = q.1 ∧ xi M 273 (120 * p + 20 * c + j) = q.2.1 ∧ xi M 274 (120 * p + 20 * c + j) = q.2.2) ∧
  ∀ (m : Nat) (b : MB), pr.2[m]? = some b → xi M 275 (30 * p + m) = b.1 ∧ xi M 276 (30 * p + m) = b.2.1 ∧ xi M 277 (30 * p + m) = b.2.2.1 ∧ xi M 279 (30 * p + m) = b.2.2.2.1 ∧ xi M 278 (30 * p + m) = nI b.2.2.2.2.length ∧ b.2.2.2.2.length ≤ 20 ∧
    ∀ (k : Nat) (i : IN), b.2.2.2.2[k]? = some i → xi M 280 (600 * p + 20 * m + k) = i.1 ∧ xi M 281 (600 * p + 20 * m + k) = i.2
