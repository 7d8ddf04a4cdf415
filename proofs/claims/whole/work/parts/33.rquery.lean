/-! the reference's questions to a program -/
section RQ
variable {M : XM} {p : Nat} {cl : List CT} {b : MB} {pr : PR}
theorem r1 (h : RefAt M) : xr M 268 1 = some 269 ∧ xt M 269 = (0, 2) := h.2.2 (1, 269, 0, 2) (by decide)
theorem r2 (h : RefAt M) : xr M 268 2 = some 270 ∧ xt M 270 = (0, 2) := h.2.2 (2, 270, 0, 2) (by decide)
theorem r3 (h : RefAt M) : xr M 268 3 = some 271 ∧ xt M 271 = (0, 12) := h.2.2 (3, 271, 0, 12) (by decide)
theorem r4 (h : RefAt M) : xr M 268 4 = some 272 ∧ xt M 272 = (0, 240) := h.2.2 (4, 272, 0, 240) (by decide)
theorem r5 (h : RefAt M) : xr M 268 5 = some 273 ∧ xt M 273 = (0, 240) := h.2.2 (5, 273, 0, 240) (by decide)
theorem r6 (h : RefAt M) : xr M 268 6 = some 274 ∧ xt M 274 = (0, 240) := h.2.2 (6, 274, 0, 240) (by decide)
theorem r7 (h : RefAt M) : xr M 268 7 = some 275 ∧ xt M 275 = (0, 60) := h.2.2 (7, 275, 0, 60) (by decide)
theorem r8 (h : RefAt M) : xr M 268 8 = some 276 ∧ xt M 276 = (0, 60) := h.2.2 (8, 276, 0, 60) (by decide)
theorem r9 (h : RefAt M) : xr M 268 9 = some 277 ∧ xt M 277 = (0, 60) := h.2.2 (9, 277, 0, 60) (by decide)
theorem r10 (h : RefAt M) : xr M 268 10 = some 278 ∧ xt M 278 = (0, 60) := h.2.2 (10, 278, 0, 60) (by decide)
theorem r11 (h : RefAt M) : xr M 268 11 = some 279 ∧ xt M 279 = (1, 60) := h.2.2 (11, 279, 1, 60) (by decide)
theorem r12 (h : RefAt M) : xr M 268 12 = some 280 ∧ xt M 280 = (0, 1200) := h.2.2 (12, 280, 0, 1200) (by decide)
theorem r13 (h : RefAt M) : xr M 268 13 = some 281 ∧ xt M 281 = (0, 1200) := h.2.2 (13, 281, 0, 1200) (by decide)
theorem r14 (h : RefAt M) : xr M 268 14 = some 282 ∧ xt M 282 = (0, 30) := h.2.2 (14, 282, 0, 30) (by decide)
theorem r15 (h : RefAt M) : xr M 268 15 = some 283 ∧ xt M 283 = (1, 30) := h.2.2 (15, 283, 1, 30) (by decide)
theorem r16 (h : RefAt M) : xr M 268 16 = some 284 ∧ xt M 284 = (0, 6) := h.2.2 (16, 284, 0, 6) (by decide)
theorem r17 (h : RefAt M) : xr M 268 17 = some 285 ∧ xt M 285 = (1, 120) := h.2.2 (17, 285, 1, 120) (by decide)
theorem r18 (h : RefAt M) : xr M 268 18 = some 286 ∧ xt M 286 = (0, 120) := h.2.2 (18, 286, 0, 120) (by decide)
theorem r19 (h : RefAt M) : xr M 268 19 = some 287 ∧ xt M 287 = (0, 100) := h.2.2 (19, 287, 0, 100) (by decide)
theorem r20 (h : RefAt M) : xr M 268 20 = some 288 ∧ xt M 288 = (1, 100) := h.2.2 (20, 288, 1, 100) (by decide)
theorem r21 (h : RefAt M) : xr M 268 21 = some 289 ∧ xt M 289 = (0, 30) := h.2.2 (21, 289, 0, 30) (by decide)
theorem r23 (h : RefAt M) : xr M 268 23 = some 290 ∧ xt M 290 = (0, 8) := h.2.2 (23, 290, 0, 8) (by decide)
theorem r24 (h : RefAt M) : xr M 268 24 = some 291 ∧ xt M 291 = (0, 8) := h.2.2 (24, 291, 0, 8) (by decide)
theorem r25 (h : RefAt M) : xr M 268 25 = some 292 ∧ xt M 292 = (0, 8) := h.2.2 (25, 292, 0, 8) (by decide)
theorem r26 (h : RefAt M) : xr M 268 26 = some 293 ∧ xt M 293 = (0, 8) := h.2.2 (26, 293, 0, 8) (by decide)
theorem r27 (h : RefAt M) : xr M 268 27 = some 294 ∧ xt M 294 = (0, 8) := h.2.2 (27, 294, 0, 8) (by decide)
theorem r28 (h : RefAt M) : xr M 268 28 = some 295 ∧ xt M 295 = (0, 64) := h.2.2 (28, 295, 0, 64) (by decide)
theorem i6 (p m : Nat) : (6 * nI p) + nI m = nI (6 * p + m) := by rw [show (6 : Int32) = nI 6 from rfl, pk_mul, nI_add]
theorem i30 (p m : Nat) : (30 * nI p) + nI m = nI (30 * p + m) := by rw [show (30 : Int32) = nI 30 from rfl, pk_mul, nI_add]
theorem i120 (p c : Nat) : (120 * nI p) + (20 * nI c) = nI (120 * p + 20 * c) := by rw [show (120 : Int32) = nI 120 from rfl, show (20 : Int32) = nI 20 from rfl, pk_mul, pk_mul, nI_add]
theorem i600 (p m k : Nat) : ((600 * nI p) + (20 * nI m)) + nI k = nI (600 * p + 20 * m + k) := by rw [show (600 : Int32) = nI 600 from rfl, show (20 : Int32) = nI 20 from rfl, pk_mul, pk_mul, nI_add, nI_add]
theorem s_R_base (p c : Nat) : g_R_base (nI p) (nI c) M = rI (nI (120 * p + 20 * c)) M := by unfold g_R_base; rw [i120]
theorem s_R_noClass (hA : RefAt M) (hp : p < 2) (hR : RepR M p pr) (x : Int32) : g_R_noClass 268 (nI p) x M = rB (!(lk pr.1 x).isSome) M := by
  have hz := hA.1
  have h6 := hR.1
  unfold g_R_noClass
  rcases lk_cases pr.1 x (by omega) with ⟨h, hx⟩ | ⟨j, q, rfl, hj, hq, h⟩
  · rw [h]
    by_cases hx0 : x < 0
    · rw [if_pos hx0, z1_e]; rfl
    · rw [if_neg hx0, gR_e (by omega) hA.2.1 (r1 hA).1, aI_e (by omega) (r1 hA).2 hp (by decide), hR.2.1, if_neg (Int32.not_lt.mpr (hx.resolve_left hx0)), z1_e]; rfl
  · rw [h, if_neg (nI_pos (by omega)), gR_e (by omega) hA.2.1 (r1 hA).1, aI_e (by omega) (r1 hA).2 hp (by decide), hR.2.1, if_pos (nI_lt hj (by omega)), z0_e]; rfl
theorem s_R_noMember (hA : RefAt M) (hp : p < 2) (hR : RepR M p pr) (x : Int32) : g_R_noMember 268 (nI p) x M = rB (!(lk pr.2 x).isSome) M := by
  have hz := hA.1
  have h6 := hR.2.2.1
  unfold g_R_noMember
  rcases lk_cases pr.2 x (by omega) with ⟨h, hx⟩ | ⟨j, q, rfl, hj, hq, h⟩
  · rw [h]
    by_cases hx0 : x < 0
    · rw [if_pos hx0, z1_e]; rfl
    · rw [if_neg hx0, gR_e (by omega) hA.2.1 (r2 hA).1, aI_e (by omega) (r2 hA).2 hp (by decide), hR.2.2.2.1, if_neg (Int32.not_lt.mpr (hx.resolve_left hx0)), z1_e]; rfl
  · rw [h, if_neg (nI_pos (by omega)), gR_e (by omega) hA.2.1 (r2 hA).1, aI_e (by omega) (r2 hA).2 hp (by decide), hR.2.2.2.1, if_pos (nI_lt hj (by omega)), z0_e]; rfl
theorem ar_neg (h : b.2.2.1 = -1 ∨ b.2.2.1 = 0 ∨ b.2.2.1 = 1 ∨ b.2.2.1 = 2) : (0 ≤ b.2.2.1) ↔ isF b = false := by
  unfold isF
  rcases h with h | h | h | h <;> rw [h] <;> decide
def noMeth (pr : PR) (x : Int32) : Bool := match lk pr.2 x with
  | some b => isF b
  | none => true
theorem s_R_noMethod (hA : RefAt M) (hp : p < 2) (hR : RepR M p pr) (hW : WF pr) (x : Int32) : g_R_noMethod 268 (nI p) x M = rB (noMeth pr x) M := by
  have hz := hA.1
  have h6 := hR.2.2.1
  unfold g_R_noMethod noMeth
  rw [rv_e (by omega) hA.2.1, s_R_noMember hA hp hR, cI_e]
  rcases lk_cases pr.2 x (by omega) with ⟨h, hx⟩ | ⟨j, q, rfl, hj, hq, h⟩
  · rw [h, if_pos (show ¬ bI (!(none : Option MB).isSome) = 0 from bI_t.mpr rfl), z1_e]; rfl
  · obtain ⟨-, hq3, -⟩ := hW.2 q (List.mem_of_getElem? hq)
    rw [h, if_neg (fun h => h rfl), gR_e (by omega) hA.2.1 (r9 hA).1, i30, aI_e (by omega) (r9 hA).2 (by omega) (by decide), (hR.2.2.2.2.2 j q hq).2.2.1]
    simp only
    by_cases hn : 0 ≤ q.2.2.1
    · rw [if_pos hn, z0_e, (ar_neg hq3).mp hn]; rfl
    · rw [if_neg hn, z1_e]
      have : isF q = true := by cases hf : isF q with
        | true => rfl
        | false => exact absurd ((ar_neg hq3).mpr hf) hn
      rw [this]; rfl
theorem s_R_has (hA : RefAt M) (hp : p < 2) (hR : RepR M p pr) {c : Nat} (hc : pr.1[c]? = some cl) (x k : Int32) : g_R_has 268 (nI p) (nI c) x k M = rB (holdsV cl x k) M := by
  have hz := hA.1
  have h6 := hR.1
  have hc6 : c < pr.1.length := (List.getElem?_eq_some_iff.mp hc).1
  obtain ⟨hl, e1, e2⟩ := hR.2.2.2.2.1 c cl hc
  unfold g_R_has holdsV
  rcases lk_cases cl x (by omega) with ⟨h, hx⟩ | ⟨j, q, rfl, hj, hq, h⟩
  · rw [h]
    by_cases hx0 : x < 0
    · rw [if_pos hx0, z0_e]; rfl
    · rw [if_neg hx0, gR_e (by omega) hA.2.1 (r3 hA).1, i6, aI_e (by omega) (r3 hA).2 (by omega) (by decide), e1, if_pos (hx.resolve_left hx0), z0_e]; rfl
  · rw [h, if_neg (nI_pos (by omega)), gR_e (by omega) hA.2.1 (r3 hA).1, i6, aI_e (by omega) (r3 hA).2 (by omega) (by decide), e1, if_neg (nI_ge hj (by omega)), gR_e (by omega) hA.2.1 (r4 hA).1, s_R_base, cI_e, nI_add, aI_e (by omega) (r4 hA).2 (by omega) (by decide), (e2 j q hq).1]
    by_cases hk : q.1 = k
    · rw [if_neg (fun h => h hk), z1_e]; simp [hk, bI]
    · rw [if_pos hk, z0_e]; simp [hk, bI]
theorem s_R_nameOf (hA : RefAt M) (hp : p < 2) (hR : RepR M p pr) (hW : WF pr) {m : Nat} (hm : pr.2[m]? = some b) : g_R_nameOf 268 (nI p) (nI m) M = rI (nameV pr b) M := by
  have hz := hA.1
  have h30 := hR.2.2.1
  have h6 := hR.1
  have hmlt : m < pr.2.length := (List.getElem?_eq_some_iff.mp hm).1
  obtain ⟨m1, m2, -⟩ := hR.2.2.2.2.2 m b hm
  obtain ⟨⟨cl, q, h1, h2, -⟩, -⟩ := hW.2 b (List.mem_of_getElem? hm)
  obtain ⟨c, hc, hclt, hcl⟩ := lk_some (by omega) h1
  obtain ⟨hl, e1, e2⟩ := hR.2.2.2.2.1 c cl hcl
  obtain ⟨j, hj, hjlt, hq⟩ := lk_some (by omega) h2
  have hn : nameV pr b = q.2.1 := by unfold nameV firstV; rw [h1]; simp only; rw [h2]
  unfold g_R_nameOf
  rw [gR_e (by omega) hA.2.1 (r5 hA).1, gR_e (by omega) hA.2.1 (r7 hA).1, i30, aI_e (by omega) (r7 hA).2 (by omega) (by decide), m1, hc, s_R_base, cI_e, gR_e (by omega) hA.2.1 (r8 hA).1, aI_e (by omega) (r8 hA).2 (by omega) (by decide), m2, hj, nI_add,
    aI_e (by omega) (r5 hA).2 (by omega) (by decide), (e2 j q hq).2.1, hn]
theorem s_R_find_l (hA : RefAt M) (hp : p < 2) (hR : RepR M p pr) (hW : WF pr) (ow nm : Int32) (fl : Bool) : ∀ (t : List MB) (i : Nat), i ≤ pr.2.length → pr.2.drop i = t → ∀ n, t.length < n → g_R_find_3 n 268 (nI p) ow (bI fl) nm (nI i) M = rI (fnd (findP pr ow nm fl) t i) M := by
  have hz := hA.1
  have h30 := hR.2.2.1
  intro t
  induction t with
  | nil =>
    intro i hl hi n hn
    obtain ⟨n, rfl⟩ : ∃ k, n = k + 1 := ⟨n - 1, by simp at hn; omega⟩
    rw [g_R_find_3, gR_e (by omega) hA.2.1 (r2 hA).1, aI_e (by omega) (r2 hA).2 hp (by decide), hR.2.2.2.1, dropN hi hl, if_pos (nI_le (Nat.le_refl _) (by omega))]
    rfl
  | cons b t ih =>
    intro i hl hi n hn
    obtain ⟨n, rfl⟩ : ∃ k, n = k + 1 := ⟨n - 1, by simp at hn; omega⟩
    obtain ⟨hb, ht, hlt⟩ := dropC hi
    obtain ⟨m1, m2, m3, -⟩ := hR.2.2.2.2.2 i b hb
    obtain ⟨-, hq3, -⟩ := hW.2 b (List.mem_of_getElem? hb)
    have hrec : g_R_find_3 n 268 (nI p) ow (bI fl) nm (nI i + 1) M = rI (fnd (findP pr ow nm fl) t (i + 1)) M := by
      rw [nI_1]; exact ih (i + 1) hlt ht n (by simp at hn; omega)
    rw [g_R_find_3, gR_e (by omega) hA.2.1 (r2 hA).1, aI_e (by omega) (r2 hA).2 hp (by decide), hR.2.2.2.1, if_neg (nI_ge hlt (by omega)), gR_e (by omega) hA.2.1 (r7 hA).1, i30, aI_e (by omega) (r7 hA).2 (by omega) (by decide), m1]
    unfold fnd
    by_cases h1 : b.1 = ow
    · rw [if_neg (fun h => h h1), gR_e (by omega) hA.2.1 (r9 hA).1, aI_e (by omega) (r9 hA).2 (by omega) (by decide), m3]
      have h50 : g_R_find_50 (g_R_find_3 n) 268 (nI p) ow (bI fl) nm (nI i) (bI (isF b)) M = rI (if findP pr ow nm fl b = true then nI i else fnd (findP pr ow nm fl) t (i + 1)) M := by
        unfold g_R_find_50
        by_cases h2 : isF b = fl
        · rw [if_neg (fun h => h (by rw [h2])), rv_e (by omega) hA.2.1, s_R_nameOf hA hp hR hW hb, cI_e]
          by_cases h3 : nameV pr b = nm
          · rw [if_neg (fun h => h h3), if_pos (by simp [findP, h1, h2, h3])]
          · rw [if_pos h3, if_neg (by simp [findP, h3])]
            exact hrec
        · rw [if_pos (fun h => h2 (bI_inj.mp h)), if_neg (by simp [findP, h2])]
          exact hrec
      rw [← h50]
      by_cases hn0 : 0 ≤ b.2.2.1
      · rw [if_pos hn0, (ar_neg hq3).mp hn0]; rfl
      · rw [if_neg hn0]
        have : isF b = true := by cases hf : isF b with
          | true => rfl
          | false => exact absurd ((ar_neg hq3).mpr hf) hn0
        rw [this]; rfl
    · rw [if_pos h1, if_neg (by simp [findP, h1])]
      exact hrec
theorem s_R_find (hA : RefAt M) (hp : p < 2) (hR : RepR M p pr) (hW : WF pr) (ow nm : Int32) (fl : Bool) : g_R_find 268 (nI p) ow (bI fl) nm M = rI (findV pr ow nm fl) M := by
  have := hR.2.2.1
  exact s_R_find_l hA hp hR hW ow nm fl pr.2 0 (Nat.zero_le _) rfl FU (by unfold FU; omega)
theorem s_R_meant (hA : RefAt M) (hp : p < 2) (hR : RepR M p pr) (hW : WF pr) {c : Nat} (hc : pr.1[c]? = some cl) (x k : Int32) (hk : k = 3 ∨ k = 4) : g_R_meant 268 (nI p) (nI c) x k M = rI (meantV pr cl x k) M := by
  have hz := hA.1
  have h6 := hR.1
  have hc6 : c < pr.1.length := (List.getElem?_eq_some_iff.mp hc).1
  obtain ⟨hl, g1, g2⟩ := hR.2.2.2.2.1 c cl hc
  unfold g_R_meant meantV
  rw [rv_e (by omega) hA.2.1, s_R_has hA hp hR hc, cI_e]
  unfold holdsV
  rcases lk_cases cl x (by omega) with ⟨h, hx⟩ | ⟨j, q, rfl, hj, hq, h⟩
  · rw [h, if_neg (fun h => h rfl)]
  · rw [h]
    simp only
    by_cases hqk : q.1 = k
    · subst hqk
      obtain ⟨e1, e2, e3⟩ := g2 j q hq
      have hok' : (∃ r, lk cl q.2.1 = some r ∧ r.1 = 2) ∧ ∃ r, lk cl q.2.2 = some r ∧ r.1 = 1 := by
        rcases hW.1 cl (List.mem_of_getElem? hc) q (List.mem_of_getElem? hq) with h | ⟨h, -⟩ | ⟨h, -⟩ | ⟨-, h⟩
        · rcases hk with h' | h' <;> (rw [h'] at h; exact absurd h (by decide))
        · rcases hk with h' | h' <;> (rw [h'] at h; exact absurd h (by decide))
        · rcases hk with h' | h' <;> (rw [h'] at h; exact absurd h (by decide))
        · exact h
      obtain ⟨⟨r1', hr1, -⟩, r2', hr2, -⟩ := hok'
      obtain ⟨j1, hj1, hj1l, hq1⟩ := lk_some (by omega) hr1
      obtain ⟨j2, hj2, hj2l, hq2⟩ := lk_some (by omega) hr2
      have f1 : firstV cl q.2.1 = r1'.2.1 := by unfold firstV; rw [hr1]
      have f2 : firstV cl q.2.2 = r2'.2.1 := by unfold firstV; rw [hr2]
      rw [f1, f2, if_pos (bI_t.mpr (by simp)), if_pos rfl, s_R_base, cI_e, gR_e (by omega) hA.2.1 (r5 hA).1, s_R_base, cI_e, gR_e (by omega) hA.2.1 (r5 hA).1, nI_add, aI_e (by omega) (r5 hA).2 (by omega) (by decide), e2, hj1, nI_add, aI_e (by omega) (r5 hA).2 (by omega) (by decide), (g2 j1 r1' hq1).2.1,
        gR_e (by omega) hA.2.1 (r5 hA).1, s_R_base, cI_e, gR_e (by omega) hA.2.1 (r6 hA).1, aI_e (by omega) (r6 hA).2 (by omega) (by decide), e3, hj2, nI_add, aI_e (by omega) (r5 hA).2 (by omega) (by decide), (g2 j2 r2' hq2).2.1]
      by_cases h3 : q.1 = 3
      · rw [if_neg (fun h => h h3), rv_e (by omega) hA.2.1, show (1 : Int32) = bI true from rfl, s_R_find hA hp hR hW, cI_e]; simp [h3]
      · rw [if_pos h3, rv_e (by omega) hA.2.1, show (0 : Int32) = bI false from rfl, s_R_find hA hp hR hW, cI_e]; simp [h3]
    · rw [if_neg (fun h => h (bI_0.mpr (by simp [hqk]))), if_neg hqk]
theorem s_closed_m {A : Int32} (hA : A = -1 ∨ ∃ i : Nat, i < 2 ^ 31 ∧ A = nI i) : (if A < 0 then z01 0 (some (.inl (some (.int 0)), M)) else z01 1 (some (.inl (some (.int 1)), M))) = rB (!(decide (A = -1))) M := by
  rcases hA with rfl | ⟨i, hi, rfl⟩
  · rfl
  · rw [if_neg (nI_pos hi), z1_e]
    have : ¬ nI i = -1 := fun h => nI_pos hi (by rw [h]; decide)
    simp [this, bI]
theorem fnd_ge (f : MB → Bool) : ∀ (t : List MB) (i : Nat), i + t.length < 2 ^ 31 → fnd f t i = -1 ∨ ∃ k : Nat, i ≤ k ∧ k < i + t.length ∧ fnd f t i = nI k
  | [], i, _ => Or.inl rfl
  | b :: t, i, h => by
    simp only [List.length_cons] at h
    unfold fnd
    by_cases hb : f b = true
    · rw [if_pos hb]; exact Or.inr ⟨i, Nat.le_refl _, by simp, rfl⟩
    · rw [if_neg hb]
      rcases fnd_ge f t (i + 1) (by omega) with h1 | ⟨k, h1, h2, h3⟩
      · exact Or.inl h1
      · exact Or.inr ⟨k, by omega, by simp only [List.length_cons]; omega, h3⟩
theorem find_ge (pr : PR) (hl : pr.2.length ≤ 30) (ow nm : Int32) (fl : Bool) : findV pr ow nm fl = -1 ∨ ∃ k : Nat, k < pr.2.length ∧ findV pr ow nm fl = nI k := by
  rcases fnd_ge (findP pr ow nm fl) pr.2 0 (by omega) with h | ⟨k, -, h2, h3⟩
  · exact Or.inl h
  · exact Or.inr ⟨k, by omega, h3⟩
theorem meant_ge (pr : PR) (hl : pr.2.length ≤ 30) (cl : List CT) (x k : Int32) : meantV pr cl x k = -1 ∨ ∃ i : Nat, i < pr.2.length ∧ meantV pr cl x k = nI i := by
  unfold meantV
  cases lk cl x with
  | none => exact Or.inl rfl
  | some q =>
    simp only
    by_cases h : q.1 = k
    · rw [if_pos h]; exact find_ge pr hl _ _ _
    · rw [if_neg h]; exact Or.inl rfl
theorem meant_ge' (pr : PR) (hl : pr.2.length ≤ 30) (cl : List CT) (x k : Int32) : meantV pr cl x k = -1 ∨ ∃ i : Nat, i < 2 ^ 31 ∧ meantV pr cl x k = nI i := by
  rcases meant_ge pr hl cl x k with h | ⟨i, h1, h2⟩
  · exact Or.inl h
  · exact Or.inr ⟨i, by omega, h2⟩
theorem s_R_isClosed (hA : RefAt M) (hp : p < 2) (hR : RepR M p pr) (hW : WF pr) {m k : Nat} {i : IN} (hm : pr.2[m]? = some b) (hk : b.2.2.2.2[k]? = some i) : g_R_isClosed 268 (nI p) (nI m) (nI k) M = rB (soundV pr b i) M := by
  have hz := hA.1
  have h30 := hR.2.2.1
  have h6 := hR.1
  have hmlt : m < pr.2.length := (List.getElem?_eq_some_iff.mp hm).1
  have hklt : k < b.2.2.2.2.length := (List.getElem?_eq_some_iff.mp hk).1
  obtain ⟨m1, m2, m3, m4, m5, m6, m7⟩ := hR.2.2.2.2.2 m b hm
  obtain ⟨k1, k2⟩ := m7 k i hk
  obtain ⟨⟨cl, q, h1, h2, -⟩, -⟩ := hW.2 b (List.mem_of_getElem? hm)
  obtain ⟨c, hc, hclt, hcl⟩ := lk_some (by omega) h1
  have hgd : (lk pr.1 b.1).getD [] = cl := by rw [h1]; rfl
  obtain ⟨w, x⟩ := i
  unfold g_R_isClosed
  rw [gR_e (by omega) hA.2.1 (r12 hA).1, i600, aI_e (by omega) (r12 hA).2 (by omega) (by decide), k1, gR_e (by omega) hA.2.1 (r13 hA).1, aI_e (by omega) (r13 hA).2 (by omega) (by decide), k2, gR_e (by omega) hA.2.1 (r7 hA).1, i30, aI_e (by omega) (r7 hA).2 (by omega) (by decide), m1, hc]
  simp only
  unfold soundV
  simp only [hgd]
  by_cases w0 : w = 0
  · rw [if_pos w0, if_pos w0, rv_e (by omega) hA.2.1, s_R_has hA hp hR hcl, cI_e, zB_e]
  rw [if_neg w0, if_neg w0]
  have h123 : g_R_isClosed_123 268 (nI p) x (nI c) M = rB (!(decide (meantV pr cl x 3 = -1))) M := by
    unfold g_R_isClosed_123
    rw [rv_e (by omega) hA.2.1, s_R_meant hA hp hR hW hcl _ _ (Or.inl rfl), cI_e]
    exact s_closed_m (meant_ge' pr h30 cl x 3)
  by_cases w1 : w = 1
  · rw [if_pos w1, if_pos (Or.inl w1)]; exact h123
  rw [if_neg w1]
  by_cases w2 : w = 2
  · rw [if_pos w2, if_pos (Or.inr w2)]; exact h123
  rw [if_neg w2, if_neg (show ¬ (w = 1 ∨ w = 2) by simp [w1, w2])]
  by_cases w3 : w = 3
  · rw [if_pos w3, if_pos w3, rv_e (by omega) hA.2.1, s_R_meant hA hp hR hW hcl _ _ (Or.inr rfl), cI_e]
    exact s_closed_m (meant_ge' pr h30 cl x 4)
  rw [if_neg w3, if_neg w3]
  by_cases w4 : w = 4
  · rw [if_pos w4, if_pos w4]
    exact s_sound_in (A := fun _ => gR M 27 268 9 fun t7 => aI M t7 (nI (30 * p + m)) fun t8 => if t8 ≤ x then z01 0 (some (.inl (some (.int 0)), M)) else z01 1 (some (.inl (some (.int 1)), M))) (by rw [gR_e (by omega) hA.2.1 (r9 hA).1, aI_e (by omega) (r9 hA).2 (by omega) (by decide), m3])
  rw [if_neg w4, if_neg w4]
  have h188 : g_R_isClosed_188 268 (nI p) (nI m) x M = rB (inV x (nI b.2.2.2.2.length)) M := by
    unfold g_R_isClosed_188
    rw [i30]
    exact s_sound_in (A := fun _ => gR M 27 268 10 fun t7 => aI M t7 (nI (30 * p + m)) fun t8 => if t8 ≤ x then z01 0 (some (.inl (some (.int 0)), M)) else z01 1 (some (.inl (some (.int 1)), M))) (by rw [gR_e (by omega) hA.2.1 (r10 hA).1, aI_e (by omega) (r10 hA).2 (by omega) (by decide), m5])
  by_cases w9 : w = 9
  · subst w9
    rw [if_pos (Or.inl rfl)]; exact h188
  by_cases w10 : w = 10
  · subst w10
    rw [if_pos (Or.inr rfl)]; exact h188
  rw [if_neg (show ¬ (w = 9 ∨ w = 10) by simp [w9, w10])]
  by_cases w5 : w = 5
  · rw [if_pos w5, z1_e]; rfl
  by_cases w6 : w = 6
  · rw [if_neg w5, if_pos w6, z1_e]; rfl
  by_cases w7 : w = 7
  · rw [if_neg w5, if_neg w6, if_pos w7, z1_e]; rfl
  by_cases w8 : w = 8
  · rw [if_neg w5, if_neg w6, if_neg w7, if_pos w8, z1_e]; rfl
  rw [if_neg w5, if_neg w6, if_neg w7, if_neg w8, if_neg w9, if_neg w10, z1_e]; rfl
theorem s_rff_i (hA : RefAt M) (hR : RepR M 0 pr) (hW : WF pr) {m : Nat} (hm : pr.2[m]? = some b) (r : Nat → Int32 → XM → XP) : ∀ (t : List IN) (i : Nat), i ≤ b.2.2.2.2.length → b.2.2.2.2.drop i = t → ∀ n, t.length < n →
    g_R_firstFault_14 r n 268 (nI m) (nI i) M = match ffI pr b t i with
      | some k => rI (100 * nI m + nI k) M
      | none => r 268 (nI m + 1) M := by
  have hz := hA.1
  have h30 := hR.2.2.1
  have hmlt : m < pr.2.length := (List.getElem?_eq_some_iff.mp hm).1
  obtain ⟨m1, m2, m3, m4, m5, m6, m7⟩ := hR.2.2.2.2.2 m b hm
  rw [show 30 * 0 + m = m by omega] at m5
  intro t
  induction t with
  | nil =>
    intro i hl hi n hn
    obtain ⟨n, rfl⟩ : ∃ k, n = k + 1 := ⟨n - 1, by simp at hn; omega⟩
    rw [g_R_firstFault_14, gR_e (by omega) hA.2.1 (r10 hA).1, aI_e (by omega) (r10 hA).2 (by omega) (by decide), m5, dropN hi hl, if_pos (nI_le (Nat.le_refl _) (by omega))]
    rfl
  | cons q t ih =>
    intro i hl hi n hn
    obtain ⟨n, rfl⟩ : ∃ k, n = k + 1 := ⟨n - 1, by simp at hn; omega⟩
    obtain ⟨hq, ht, hlt⟩ := dropC hi
    rw [g_R_firstFault_14, gR_e (by omega) hA.2.1 (r10 hA).1, aI_e (by omega) (r10 hA).2 (by omega) (by decide), m5, if_neg (nI_ge hlt (by omega)), rv_e (by omega) hA.2.1, show (0 : Int32) = nI 0 from rfl, s_R_isClosed hA (by decide) hR hW hm hq, cI_e]
    unfold ffI
    by_cases hs : soundV pr b q = true
    · rw [if_pos (show ¬ bI (soundV pr b q) = nI 0 from bI_t.mpr hs), if_pos hs, nI_1]
      exact ih (i + 1) hlt ht n (by simp at hn; omega)
    · rw [if_neg (show ¬ ¬ bI (soundV pr b q) = nI 0 from fun h => hs (bI_t.mp h)), if_neg hs]
theorem s_rff_m (hA : RefAt M) (hR : RepR M 0 pr) (hW : WF pr) : ∀ (t : List MB) (m : Nat), m ≤ pr.2.length → pr.2.drop m = t → ∀ n, t.length < n → g_R_firstFault_2 n 268 (nI m) M = rI (ffM pr t m) M := by
  have hz := hA.1
  have h30 := hR.2.2.1
  intro t
  induction t with
  | nil =>
    intro i hl hi n hn
    obtain ⟨n, rfl⟩ : ∃ k, n = k + 1 := ⟨n - 1, by simp at hn; omega⟩
    rw [g_R_firstFault_2, gR_e (by omega) hA.2.1 (r2 hA).1, show (0 : Int32) = nI 0 from rfl, aI_e (by omega) (r2 hA).2 (by decide) (by decide), hR.2.2.2.1, dropN hi hl, if_pos (nI_le (Nat.le_refl _) (by omega))]
    rfl
  | cons b t ih =>
    intro i hl hi n hn
    obtain ⟨n, rfl⟩ : ∃ k, n = k + 1 := ⟨n - 1, by simp at hn; omega⟩
    obtain ⟨hb, ht, hlt⟩ := dropC hi
    have m6 := (hR.2.2.2.2.2 i b hb).2.2.2.2.2.1
    rw [g_R_firstFault_2, gR_e (by omega) hA.2.1 (r2 hA).1, show (0 : Int32) = nI 0 from rfl, aI_e (by omega) (r2 hA).2 (by decide) (by decide), hR.2.2.2.1, if_neg (nI_ge hlt (by omega)), s_rff_i hA hR hW hb (g_R_firstFault_2 n) b.2.2.2.2 0 (Nat.zero_le _) rfl FU (by unfold FU; omega)]
    unfold ffM
    cases hf : ffI pr b b.2.2.2.2 0 with
    | some k => rfl
    | none =>
      simp only
      rw [nI_1]
      exact ih (i + 1) hlt ht n (by simp at hn; omega)
theorem s_R_firstFault (hA : RefAt M) (hR : RepR M 0 pr) (hW : WF pr) : g_R_firstFault 268 M = rI (faultV pr) M := by
  have := hR.2.2.1
  exact s_rff_m hA hR hW pr.2 0 (Nat.zero_le _) rfl FU (by unfold FU; omega)
theorem s_rent (hA : RefAt M) (hp : p < 2) (hR : RepR M p pr) : ∀ (t : List MB) (m : Nat) (e : Int32), m ≤ pr.2.length → pr.2.drop m = t → ∀ n, t.length < n → g_R_countEntries_4 n 268 (nI p) e (nI m) M = rI (entV t e) M := by
  have hz := hA.1
  have h30 := hR.2.2.1
  intro t
  induction t with
  | nil =>
    intro i e hl hi n hn
    obtain ⟨n, rfl⟩ : ∃ k, n = k + 1 := ⟨n - 1, by simp at hn; omega⟩
    rw [g_R_countEntries_4, gR_e (by omega) hA.2.1 (r2 hA).1, aI_e (by omega) (r2 hA).2 hp (by decide), hR.2.2.2.1, dropN hi hl, if_pos (nI_le (Nat.le_refl _) (by omega))]
    rfl
  | cons b t ih =>
    intro i e hl hi n hn
    obtain ⟨n, rfl⟩ : ∃ k, n = k + 1 := ⟨n - 1, by simp at hn; omega⟩
    obtain ⟨hb, ht, hlt⟩ := dropC hi
    have m4 := (hR.2.2.2.2.2 i b hb).2.2.2.1
    rw [g_R_countEntries_4, gR_e (by omega) hA.2.1 (r2 hA).1, aI_e (by omega) (r2 hA).2 hp (by decide), hR.2.2.2.1, if_neg (nI_ge hlt (by omega)), gR_e (by omega) hA.2.1 (r11 hA).1, i30, aZ_e (by omega) (r11 hA).2 (by omega) (by decide), m4, nI_1]
    unfold entV
    by_cases he : b.2.2.2.1 = 0
    · rw [if_pos he, if_pos he]; exact ih (i + 1) _ hlt ht n (by simp at hn; omega)
    · rw [if_neg he, if_neg he]; exact ih (i + 1) _ hlt ht n (by simp at hn; omega)
theorem s_R_countEntries (hA : RefAt M) (hp : p < 2) (hR : RepR M p pr) : g_R_countEntries 268 (nI p) M = rI (entV pr.2 0) M := by
  have := hR.2.2.1
  exact s_rent hA hp hR pr.2 0 0 (Nat.zero_le _) rfl FU (by unfold FU; omega)
end RQ
