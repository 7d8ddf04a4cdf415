/-! the pure part: what the programs do, step by step -/
section PU
variable {M : XM} {k a b i j n : Nat} {v : Int32} {F : Int32 → XP} {Fn : Nat → XP} {Fm : XM → XP} {Fj : Int64 → XP} {Fx : Nat → XM → XP}
theorem gI_e (h1 : a < xz M) (h2 : xt M a = (k, n)) : gI M k a j F = F (xi M a j) := by unfold gI; rw [if_pos ⟨h1, by rw [h2]⟩]
theorem gR_e (h1 : a < xz M) (h2 : xt M a = (k, n)) (h3 : xr M a j = some b) : gR M k a j Fn = Fn b := by unfold gR; rw [if_pos ⟨h1, by rw [h2]⟩, h3]
theorem uI_e (h1 : a < xz M) (h2 : xt M a = (k, n)) : uI M k a j v Fm = Fm (xpi M a j v) := by unfold uI; rw [if_pos ⟨h1, by rw [h2]⟩]
theorem uZ_e (h1 : a < xz M) (h2 : xt M a = (k, n)) (h3 : v = 0 ∨ v = 1) : uZ M k a j v Fm = Fm (xpi M a j v) := by unfold uZ; rw [if_pos ⟨⟨h1, by rw [h2]⟩, h3⟩]
theorem uR_e (h1 : a < xz M) (h2 : xt M a = (k, n)) : uR M k a j b Fm = Fm (xpr M a j b) := by unfold uR; rw [if_pos ⟨h1, by rw [h2]⟩]
theorem rv_e {f : XP} (h1 : a < xz M) (h2 : xt M a = (k, n)) : rv M k a f = f := by unfold rv; rw [if_pos ⟨h1, by rw [h2]⟩]
theorem aI_e (h1 : a < xz M) (h2 : xt M a = (0, n)) (hi : i < n) (hn : n < 2 ^ 31) : aI M a (nI i) F = F (xi M a i) := by
  unfold aI; rw [if_pos ⟨⟨h1, Or.inl (by rw [h2])⟩, by rw [h2]; exact nI_in hi hn⟩, nI_clamp (by omega)]
theorem aS_e (h1 : a < xz M) (h2 : xt M a = (5, n)) (hi : i < n) (hn : n < 2 ^ 31) : aI M a (nI i) F = F (xi M a i) := by
  unfold aI; rw [if_pos ⟨⟨h1, Or.inr (by rw [h2])⟩, by rw [h2]; exact nI_in hi hn⟩, nI_clamp (by omega)]
theorem aZ_e (h1 : a < xz M) (h2 : xt M a = (1, n)) (hi : i < n) (hn : n < 2 ^ 31) : aZ M a (nI i) F = F (xi M a i) := by
  unfold aZ; rw [if_pos ⟨⟨h1, by rw [h2]⟩, by rw [h2]; exact nI_in hi hn⟩, nI_clamp (by omega)]
theorem aJ_e (h1 : a < xz M) (h2 : xt M a = (2, n)) (hi : i < n) (hn : n < 2 ^ 31) : aJ M a (nI i) Fj = Fj (xj M a i) := by
  unfold aJ; rw [if_pos ⟨⟨h1, by rw [h2]⟩, by rw [h2]; exact nI_in hi hn⟩, nI_clamp (by omega)]
theorem aR_e (h1 : a < xz M) (h2 : xt M a = (k, n)) (hi : i < n) (hn : n < 2 ^ 31) (h3 : xr M a i = some b) : aR M k a (nI i) Fn = Fn b := by
  unfold aR; rw [if_pos ⟨⟨h1, by rw [h2]⟩, by rw [h2]; exact nI_in hi hn⟩, nI_clamp (by omega), h3]
theorem sI_e (h1 : a < xz M) (h2 : xt M a = (0, n)) (hi : i < n) (hn : n < 2 ^ 31) : sI M a (nI i) v Fm = Fm (xpi M a i v) := by
  unfold sI; rw [if_pos ⟨⟨h1, by rw [h2]⟩, by rw [h2]; exact nI_in hi hn⟩, nI_clamp (by omega)]
theorem sZ_e (h1 : a < xz M) (h2 : xt M a = (1, n)) (hi : i < n) (hn : n < 2 ^ 31) (h3 : v = 0 ∨ v = 1) : sZ M a (nI i) v Fm = Fm (xpi M a i v) := by
  unfold sZ; rw [if_pos ⟨⟨⟨h1, by rw [h2]⟩, by rw [h2]; exact nI_in hi hn⟩, h3⟩, nI_clamp (by omega)]
theorem sJ_e {w : Int64} (h1 : a < xz M) (h2 : xt M a = (2, n)) (hi : i < n) (hn : n < 2 ^ 31) : sJ M a (nI i) w Fm = Fm (xpj M a i w) := by
  unfold sJ; rw [if_pos ⟨⟨h1, by rw [h2]⟩, by rw [h2]; exact nI_in hi hn⟩, nI_clamp (by omega)]
theorem sR_e {ci m : Nat} (h1 : a < xz M) (h2 : xt M a = (k, n)) (hi : i < n) (hn : n < 2 ^ 31) (h3 : b < xz M) (h4 : xt M b = (20 + ci, m)) : sR M k ci a (nI i) b Fm = Fm (xpr M a i b) := by
  unfold sR; rw [if_pos ⟨⟨⟨h1, by rw [h2]⟩, by rw [h2]; exact nI_in hi hn⟩, h3, by rw [h4]⟩, nI_clamp (by omega)]
theorem aL_e (h1 : a < xz M) (h2 : xt M a = (k, n)) (h3 : (xar k).isSome = true) : aL M a F = F (nI n) := by
  unfold aL; rw [if_pos ⟨h1, by rw [h2]; exact h3⟩, h2]; rfl
theorem nO_e (h1 : xz M < ZM) (h2 : xu M + n ≤ UM) : nO M k n Fx = Fx (xz M) (xnw M k 0 n) := by unfold nO; rw [if_pos ⟨h1, h2⟩]
theorem nA_e (hn : n ≤ 100000) (h1 : xz M < ZM) (h2 : xu M + n ≤ UM) : nA M k (nI n) Fx = Fx (xz M) (xnw M k n n) := by
  have hc : (nI n).toNatClampNeg = n := nI_clamp (by omega)
  unfold nA; rw [hc, if_pos ⟨⟨nI_pos (by omega), hn⟩, h1, h2⟩]
theorem tX_e {ei : Nat} (h1 : xz M < ZM) (h2 : xu M + 6 ≤ UM) : tX M ei = some (.inr (xz M), xnw M (40 + ei) 0 6) := by unfold tX; rw [if_pos ⟨h1, h2⟩]
theorem z01_e {f : XP} (h : v = 0 ∨ v = 1) : z01 v f = f := by unfold z01; rw [if_pos h]
theorem cI_e {F2 : Int32 → XM → XP} : cI (some (.inl (some (.int v)), M)) F2 = F2 v M := rfl
theorem cI_x {F2 : Int32 → XM → XP} : cI (some (.inr a, M)) F2 = some (.inr a, M) := rfl
theorem cV_e : cV (some (.inl none, M)) Fm = Fm M := rfl
theorem cV_x : cV (some (.inr a, M)) Fm = some (.inr a, M) := rfl
theorem cR_e : cR (some (.inl (some (.ref b)), M)) Fx = Fx b M := rfl
theorem hI_e {F2 : Int32 → XM → XP} {G2 : Nat → XM → XP} : hI (some (.inl (some (.int v)), M)) F2 G2 = F2 v M := rfl
theorem hI_x {F2 : Int32 → XM → XP} {G2 : Nat → XM → XP} : hI (some (.inr a, M)) F2 G2 = G2 a M := rfl
theorem hV_e {G2 : Nat → XM → XP} : hV (some (.inl none, M)) Fm G2 = Fm M := rfl
theorem hV_x {G2 : Nat → XM → XP} : hV (some (.inr a, M)) Fm G2 = G2 a M := rfl
end PU
/-! where things lie -/
def PoolAt (M : XM) (a : Nat) : Prop := a + 3 < xz M ∧ xt M a = (22, 0) ∧ xt M (a + 1) = (0, 20) ∧ xt M (a + 2) = (0, 20) ∧ xt M (a + 3) = (0, 20) ∧ xr M a 0 = some (a + 1) ∧ xr M a 1 = some (a + 2) ∧ xr M a 2 = some (a + 3)
def MembAt (M : XM) (a : Nat) : Prop := a + 2 < xz M ∧ xt M a = (23, 0) ∧ xt M (a + 1) = (0, 20) ∧ xt M (a + 2) = (0, 20) ∧ xr M a 5 = some (a + 1) ∧ xr M a 6 = some (a + 2)
def ProgAt (M : XM) (P : Nat) : Prop := P + 117 ≤ xz M ∧ xt M P = (21, 0) ∧ xt M (P + 1) = (10, 6) ∧ xt M (P + 2) = (11, 30) ∧ xr M P 0 = some (P + 1) ∧ xr M P 1 = some (P + 2) ∧
  (∀ c, c < 6 → xr M (P + 1) c = some (P + 3 + 4 * c) ∧ PoolAt M (P + 3 + 4 * c)) ∧ ∀ m, m < 30 → xr M (P + 2) m = some (P + 27 + 3 * m) ∧ MembAt M (P + 27 + 3 * m)
def ShakAt (M : XM) : Prop := 249 ≤ xz M ∧ xt M 236 = (24, 0) ∧ xt M 237 = (0, 30) ∧ xt M 238 = (0, 6) ∧ xt M 239 = (13, 6) ∧ xt M 246 = (0, 100) ∧ xt M 247 = (0, 100) ∧ xt M 248 = (0, 30) ∧
  xr M 236 0 = some 237 ∧ xr M 236 1 = some 238 ∧ xr M 236 2 = some 239 ∧ xr M 236 3 = some 246 ∧ xr M 236 4 = some 247 ∧ xr M 236 5 = some 248 ∧ ∀ c, c < 6 → xr M 239 c = some (240 + c) ∧ xt M (240 + c) = (0, 20)
def MachAt (M : XM) : Prop := 268 ≤ xz M ∧ xt M 249 = (26, 0) ∧ xt M 250 = (0, 30) ∧ xt M 251 = (12, 8) ∧ xr M 249 0 = some 250 ∧ xr M 249 1 = some 251 ∧ ∀ f, f < 8 → xr M 251 f = some (252 + 2 * f) ∧ xt M (252 + 2 * f) = (25, 0) ∧ xt M (253 + 2 * f) = (0, 8) ∧ xr M (252 + 2 * f) 0 = some (253 + 2 * f)
/-- the reference's rows: field, place, kind, length -/
def refTab : List (Nat × Nat × Nat × Nat) := [(1, 269, 0, 2), (2, 270, 0, 2), (3, 271, 0, 12), (4, 272, 0, 240), (5, 273, 0, 240), (6, 274, 0, 240), (7, 275, 0, 60), (8, 276, 0, 60), (9, 277, 0, 60), (10, 278, 0, 60), (11, 279, 1, 60), (12, 280, 0, 1200), (13, 281, 0, 1200),
  (14, 282, 0, 30), (15, 283, 1, 30), (16, 284, 0, 6), (17, 285, 1, 120), (18, 286, 0, 120), (19, 287, 0, 100), (20, 288, 1, 100), (21, 289, 0, 30), (23, 290, 0, 8), (24, 291, 0, 8), (25, 292, 0, 8), (26, 293, 0, 8), (27, 294, 0, 8), (28, 295, 0, 64)]
def RefAt (M : XM) : Prop := 296 ≤ xz M ∧ xt M 268 = (27, 0) ∧ ∀ q ∈ refTab, xr M 268 q.1 = some q.2.1 ∧ xt M q.2.1 = (q.2.2.1, q.2.2.2)
def Lay (M : XM) : Prop := 297 ≤ xz M ∧ xt M 1 = (20, 0) ∧ xr M 1 0 = some 2 ∧ xr M 1 1 = some 119 ∧ xr M 1 2 = some 236 ∧ xr M 1 3 = some 249 ∧ xt M 296 = (2, 1) ∧ ProgAt M 2 ∧ ProgAt M 119 ∧ ShakAt M ∧ MachAt M ∧ RefAt M
theorem Lay.pi {M : XM} (h : Lay M) (a i : Nat) (v : Int32) : Lay (xpi M a i v) := h
theorem Lay.pj {M : XM} (h : Lay M) (a i : Nat) (v : Int64) : Lay (xpj M a i v) := h
