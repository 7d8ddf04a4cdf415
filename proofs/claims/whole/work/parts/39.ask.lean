/-! the calls that only ask: the class -/
abbrev AR : Type := Int32 ⊕ Nat
def OkA (M : XM) (g : XP) (r : AR) : Prop := match r with
  | .inl v => g = rI v M
  | .inr e => g = some (.inr (xz M), xnw M (40 + e) 0 6)
def OkB (M : XM) (g : XP) (ec : Nat → Nat) (r : AR) : Prop := match r with
  | .inl v => g = rI v (xpi M 268 0 0)
  | .inr e => ∃ v, g = rI v (xpi M 268 0 (nI (ec e)))
def countV (pr : PR) (w : Int32) : AR := if w = 0 then .inl (nI pr.1.length) else if w = 1 then .inl (nI pr.2.length) else if w = 2 then .inl (entV pr.2 0) else .inr 2
def poolV (pr : PR) (o : Int32) : AR := match lk pr.1 o with
  | some cl => .inl (nI cl.length)
  | none => .inr 1
def constAtV (pr : PR) (o x w : Int32) : AR := match lk pr.1 o with
  | none => .inr 1
  | some cl => match lk cl x with
    | none => .inr 1
    | some q => if w = 0 then .inl q.1 else if w = 1 then .inl q.2.1 else if w = 2 then .inl q.2.2 else .inr 2
def membAtV (pr : PR) (m w : Int32) : AR := match lk pr.2 m with
  | none => .inr 1
  | some b => if w = 0 then .inl b.1 else if w = 1 then .inl b.2.1 else if w = 2 then .inl b.2.2.1 else if w = 3 then .inl (nI b.2.2.2.2.length) else if w = 4 then .inl (if b.2.2.2.1 = 0 then 0 else 1) else if w = 5 then .inl (nameV pr b) else .inr 2
def codeAtV (pr : PR) (m k : Int32) : AR := if noMeth pr m = true then .inr 1 else match lk pr.2 m with
  | none => .inr 1
  | some b => match lk b.2.2.2.2 k with
    | none => .inr 1
    | some i => .inl (1000 * i.1 + i.2)
section PQ
variable {M : XM} {p : Nat} {cl : List CT} {b : MB} {pr : PR}
theorem s_chosen (hL : Lay M) (hp : p < 2) : g_S_chosen 1 (nI p) M = some (.inl (some (.ref (2 + 117 * p))), M) := by
  obtain ⟨l0, l1, l2, l3, l4, l5, l6, -⟩ := id hL
  unfold g_S_chosen
  rcases (show p = 0 ∨ p = 1 by omega) with rfl | rfl
  · rw [if_pos (show nI 0 = 0 from rfl), gR_e (by omega) l1 l2]
  · rw [if_neg (by decide), gR_e (by omega) l1 l3]
theorem Lay.prog (hL : Lay M) (hp : p < 2) : ProgAt M (2 + 117 * p) := by
  obtain ⟨l0, l1, l2, l3, l4, l5, l6, h1, h2, -⟩ := id hL
  rcases (show p = 0 ∨ p = 1 by omega) with rfl | rfl
  · exact h1
  · exact h2
theorem s_S_count (hL : Lay M) (hp : p < 2) (hR : RepC M (2 + 117 * p) pr) (hz : xz M < ZM) (hu : xu M + 6 ≤ UM) (w : Int32) : OkA M (g_S_count 1 (nI p) w M) (countV pr w) := by
  have hA := hL.prog hp
  have h1 := hA.1
  unfold g_S_count countV
  rw [rv_e (by have := hL.1; omega) hL.2.1, s_chosen hL hp, cR_e]
  by_cases w0 : w = 0
  · rw [if_pos w0, if_pos w0, gI_e (by omega) hA.2.1, hR.2.1]; rfl
  rw [if_neg w0, if_neg w0]
  by_cases w1 : w = 1
  · rw [if_pos w1, if_pos w1, gI_e (by omega) hA.2.1, hR.2.2.2.1]; rfl
  rw [if_neg w1, if_neg w1]
  by_cases w2 : w = 2
  · rw [if_pos w2, if_pos w2, rv_e (by omega) hA.2.1, s_P_entries hA hR, cI_e]; rfl
  rw [if_neg w2, if_neg w2]
  exact tX_e hz hu
theorem s_S_pool (hL : Lay M) (hp : p < 2) (hR : RepC M (2 + 117 * p) pr) (hz : xz M < ZM) (hu : xu M + 6 ≤ UM) (o : Int32) : OkA M (g_S_pool 1 (nI p) o M) (poolV pr o) := by
  have hA := hL.prog hp
  have h1 := hA.1
  have h6 := hR.1
  unfold g_S_pool poolV
  rw [rv_e (by have := hL.1; omega) hL.2.1, s_chosen hL hp, cR_e, rv_e (by omega) hA.2.1, s_P_hasClass hA hR, cI_e]
  rcases lk_cases pr.1 o (by omega) with ⟨h, hx⟩ | ⟨c, cl, rfl, hc, hcl, h⟩
  · rw [h, if_neg (fun h => h rfl)]
    exact tX_e hz hu
  · obtain ⟨hc6, hxc, hPa, hPi⟩ := hR.pool hA hcl
    have hzp := hPa.1
    rw [h, if_pos bI_some, gR_e (by omega) hA.2.1 hA.2.2.2.2.1, aR_e (by omega) hA.2.2.1 hc6 (by decide) hxc, gI_e (by omega) hPa.2.1, hPi.2.1]
    rfl
theorem s_S_constantAt (hL : Lay M) (hp : p < 2) (hR : RepC M (2 + 117 * p) pr) (hz : xz M < ZM) (hu : xu M + 6 ≤ UM) (o x w : Int32) : OkA M (g_S_constantAt 1 (nI p) o x w M) (constAtV pr o x w) := by
  have hA := hL.prog hp
  have h1 := hA.1
  have h6 := hR.1
  unfold g_S_constantAt constAtV
  rw [rv_e (by have := hL.1; omega) hL.2.1, s_chosen hL hp, cR_e, rv_e (by omega) hA.2.1, s_P_hasClass hA hR, cI_e]
  rcases lk_cases pr.1 o (by omega) with ⟨h, hx⟩ | ⟨c, cl, rfl, hc, hcl, h⟩
  · rw [h, if_neg (fun h => h rfl)]
    exact tX_e hz hu
  · obtain ⟨hc6, hxc, hPa, hPi⟩ := hR.pool hA hcl
    have hzp := hPa.1
    have hl := hPi.1
    rw [h, if_pos bI_some, gR_e (by omega) hA.2.1 hA.2.2.2.2.1, aR_e (by omega) hA.2.2.1 hc6 (by decide) hxc, rv_e (by omega) hPa.2.1, s_Q_has hPa hPi, cI_e]
    simp only
    rcases lk_cases cl x (by omega) with ⟨h, hx⟩ | ⟨j, q, rfl, hj, hq, h⟩
    · rw [h, if_neg (fun h => h rfl)]
      exact tX_e hz hu
    · have e := hPi.2.2 j q hq
      rw [h, if_pos bI_some]
      simp only
      by_cases w0 : w = 0
      · rw [if_pos w0, if_pos w0, gR_e (by omega) hPa.2.1 hPa.2.2.2.2.2.1, aI_e (by omega) hPa.2.2.1 (by omega) (by decide), e.1]; rfl
      rw [if_neg w0, if_neg w0]
      by_cases w1 : w = 1
      · rw [if_pos w1, if_pos w1, gR_e (by omega) hPa.2.1 hPa.2.2.2.2.2.2.1, aI_e (by omega) hPa.2.2.2.1 (by omega) (by decide), e.2.1]; rfl
      rw [if_neg w1, if_neg w1]
      by_cases w2 : w = 2
      · rw [if_pos w2, if_pos w2, gR_e (by omega) hPa.2.1 hPa.2.2.2.2.2.2.2, aI_e (by omega) hPa.2.2.2.2.1 (by omega) (by decide), e.2.2]; rfl
      rw [if_neg w2, if_neg w2]
      exact tX_e hz hu
theorem s_S_memberAt (hL : Lay M) (hp : p < 2) (hR : RepC M (2 + 117 * p) pr) (hW : WF pr) (hz : xz M < ZM) (hu : xu M + 6 ≤ UM) (o w : Int32) : OkA M (g_S_memberAt 1 (nI p) o w M) (membAtV pr o w) := by
  have hA := hL.prog hp
  have h1 := hA.1
  have h6 := hR.2.2.1
  unfold g_S_memberAt membAtV
  rw [rv_e (by have := hL.1; omega) hL.2.1, s_chosen hL hp, cR_e, rv_e (by omega) hA.2.1, s_P_hasMember hA hR, cI_e]
  rcases lk_cases pr.2 o (by omega) with ⟨h, hx⟩ | ⟨m, b, rfl, hm, hb, h⟩
  · rw [h, if_neg (fun h => h rfl)]
    exact tX_e hz hu
  · obtain ⟨hm30, hxr, hMa, e1, e2, e3, e4, e5, -⟩ := hR.memb hA hb
    have hza := hMa.1
    rw [h, if_pos bI_some, gR_e (by omega) hA.2.1 hA.2.2.2.2.2.1, aR_e (by omega) hA.2.2.2.1 hm30 (by decide) hxr]
    simp only
    by_cases w0 : w = 0
    · rw [if_pos w0, if_pos w0, gI_e (by omega) hMa.2.1, e1]; rfl
    rw [if_neg w0, if_neg w0]
    by_cases w0 : w = 1
    · rw [if_pos w0, if_pos w0, gI_e (by omega) hMa.2.1, e2]; rfl
    rw [if_neg w0, if_neg w0]
    by_cases w0 : w = 2
    · rw [if_pos w0, if_pos w0, gI_e (by omega) hMa.2.1, e3]; rfl
    rw [if_neg w0, if_neg w0]
    by_cases w0 : w = 3
    · rw [if_pos w0, if_pos w0, gI_e (by omega) hMa.2.1, e5]; rfl
    rw [if_neg w0, if_neg w0]
    by_cases w0 : w = 4
    · rw [if_pos w0, if_pos w0, gI_e (by omega) hMa.2.1, e4]
      by_cases h0 : b.2.2.2.1 = 0
      · rw [if_pos h0, if_pos h0]; rfl
      · rw [if_neg h0, if_neg h0]; rfl
    rw [if_neg w0, if_neg w0]
    by_cases w0 : w = 5
    · rw [if_pos w0, if_pos w0, rv_e (by omega) hA.2.1, s_P_nameOf hA hR hW hb, cI_e]; rfl
    rw [if_neg w0, if_neg w0]
    exact tX_e hz hu
theorem s_S_codeAt (hL : Lay M) (hp : p < 2) (hR : RepC M (2 + 117 * p) pr) (hz : xz M < ZM) (hu : xu M + 6 ≤ UM) (o k : Int32) : OkA M (g_S_codeAt 1 (nI p) o k M) (codeAtV pr o k) := by
  have hA := hL.prog hp
  have h1 := hA.1
  have h6 := hR.2.2.1
  unfold g_S_codeAt codeAtV
  rw [rv_e (by have := hL.1; omega) hL.2.1, s_chosen hL hp, cR_e, rv_e (by omega) hA.2.1, s_P_hasMethod hA hR, cI_e]
  cases hno : noMeth pr o with
  | true => rw [if_neg (fun h => h rfl), if_pos rfl]; exact tX_e hz hu
  | false =>
    rw [if_pos (by decide), if_neg (show ¬ (false = true) by decide)]
    rcases lk_cases pr.2 o (by omega) with ⟨h, hx⟩ | ⟨m, b, rfl, hm, hb, h⟩
    · unfold noMeth at hno; rw [h] at hno; cases hno
    · obtain ⟨hm30, hxr, hMa, e1, e2, e3, e4, e5, e6, e7⟩ := hR.memb hA hb
      have hza := hMa.1
      rw [h, gR_e (by omega) hA.2.1 hA.2.2.2.2.2.1, aR_e (by omega) hA.2.2.2.1 hm30 (by decide) hxr]
      simp only
      rcases lk_cases b.2.2.2.2 k (by omega) with ⟨h, hx⟩ | ⟨j, i, rfl, hj, hi, h⟩
      · rw [h]
        by_cases hx0 : k < 0
        · rw [if_pos hx0]; exact tX_e hz hu
        · rw [if_neg hx0, gI_e (by omega) hMa.2.1, e5, if_neg (Int32.not_lt.mpr (hx.resolve_left hx0))]; exact tX_e hz hu
      · have e := e7 j i hi
        rw [h, if_neg (nI_pos (by omega)), gI_e (by omega) hMa.2.1, e5, if_pos (nI_lt hj (by omega)), gR_e (by omega) hMa.2.1 hMa.2.2.2.2.1, aI_e (by omega) hMa.2.2.1 (by omega) (by decide), e.1, gR_e (by omega) hMa.2.1 hMa.2.2.2.2.2, aI_e (by omega) hMa.2.2.2.1 (by omega) (by decide), e.2]
        rfl
def movedV (M : XM) (a : Nat) (x : Int32) : Int32 := if x < 0 then -1 else if 30 ≤ x then -1 else xi M a x.toNatClampNeg
theorem s_S_moved (hL : Lay M) (x : Int32) : g_S_moved 1 x M = rI (movedV M 237 x) M := by
  obtain ⟨l0, l1, l2, l3, l4, l5, l6, -, -, hS, -⟩ := id hL
  have hz := hS.1
  unfold g_S_moved g_K_newNumber movedV
  rw [gR_e (by omega) l1 l4, rv_e (by omega) hS.2.1]
  rcases pk_ix (n := 30) x (by decide) with h | h | ⟨j, hj, rfl⟩
  · rw [if_pos h, if_pos h, cI_e]
  · have h' : (30 : Int32) ≤ x := h
    by_cases h0 : x < 0
    · rw [if_pos h0, if_pos h0, cI_e]
    · rw [if_neg h0, if_neg h0, if_pos h', if_pos h', cI_e]
  · rw [if_neg (nI_pos (by omega)), if_neg (nI_pos (by omega)), if_neg (show ¬ (30 : Int32) ≤ nI j from nI_ge (b := 30) hj (by decide)), if_neg (show ¬ (30 : Int32) ≤ nI j from nI_ge (b := 30) hj (by decide)), gR_e (by omega) hS.2.1 hS.2.2.2.2.2.2.2.2.1, aI_e (by omega) hS.2.2.1 hj (by decide), cI_e, nI_clamp (by omega)]
/-! the calls that only ask: the reference -/
theorem s_cd (hA : RefAt M) {v : Int32} {F : XM → XP} : uI M 27 268 0 v F = F (xpi M 268 0 v) := by
  have hz := hA.1
  rw [uI_e (by omega) hA.2.1]
theorem w2_cases (w : Int32) (n : Nat) (hn : n < 100) : (w < 0) ∨ (¬ w < 0 ∧ ¬ w ≤ nI n ∧ ∀ k : Nat, k ≤ n → ¬ w = nI k) ∨ ∃ k : Nat, k ≤ n ∧ w = nI k := by
  rcases pk_ix (n := n + 1) w (by omega) with h | h | ⟨j, hj, rfl⟩
  · exact Or.inl h
  · have h' := Int32.le_iff_toInt_le.mp h
    rw [nI_toInt (by omega)] at h'
    refine Or.inr (Or.inl ⟨fun h0 => ?_, fun h1 => ?_, fun k hk e => ?_⟩)
    · have := Int32.lt_iff_toInt_lt.mp h0
      rw [show (0 : Int32).toInt = 0 by decide] at this
      omega
    · have := Int32.le_iff_toInt_le.mp h1
      rw [nI_toInt (by omega)] at this
      omega
    · rw [e, nI_toInt (by omega)] at h'; omega
  · exact Or.inr (Or.inr ⟨j, by omega, rfl⟩)
theorem s_R_count (hA : RefAt M) (hp : p < 2) (hR : RepR M p pr) (w : Int32) : OkB M (g_R_count 268 (nI p) w M) (fun _ => 1) (countV pr w) := by
  have hz := hA.1
  have h15 : ∀ v, g_R_count_15 268 (nI p) w 268 v M = g_R_count_27 268 w (nI p) (xpi M 268 0 v) := by
    intro v
    unfold g_R_count_15
    rw [s_cd hA]
    rcases (show p = 0 ∨ p = 1 by omega) with rfl | rfl
    · rw [if_pos (show nI 0 = 0 from rfl)]; rfl
    · rw [if_neg (by decide)]; rfl
  have hbad : ∃ v, g_R_count_10 268 (nI p) w 268 M = rI v (xpi M 268 0 1) := by
    have hA1 : RefAt (xpi M 268 0 1) := hA
    have hz1 := hA1.1
    unfold g_R_count_10
    rw [h15]
    unfold g_R_count_27
    rw [gI_e (by omega) hA1.2.1, xi_eq, if_neg (by decide)]
    exact ⟨_, rfl⟩
  unfold g_R_count countV
  rcases w2_cases w 2 (by decide) with h | ⟨h1, h2, h3⟩ | ⟨k, hk, rfl⟩
  · rw [if_pos h, if_neg (fun e => by rw [e] at h; revert h; decide), if_neg (fun e => by rw [e] at h; revert h; decide), if_neg (fun e => by rw [e] at h; revert h; decide)]
    exact hbad
  · rw [if_neg h1, if_neg (show ¬ w ≤ 2 from h2), if_neg (show ¬ w = 0 from h3 0 (by decide)), if_neg (show ¬ w = 1 from h3 1 (by decide)), if_neg (show ¬ w = 2 from h3 2 (by decide))]
    exact hbad
  · have hA1 : RefAt (xpi M 268 0 0) := hA
    have hz1 := hA1.1
    have hR1 : RepR (xpi M 268 0 0) p pr := hR.code
    rw [if_neg (nI_pos (by omega)), if_pos (show nI k ≤ 2 from nI_le (b := 2) hk (by decide)), h15]
    unfold g_R_count_27
    rw [gI_e (by omega) hA1.2.1, xi_eq, if_pos (show (0 : Int32) ≤ 0 by decide)]
    rcases (show k = 0 ∨ k = 1 ∨ k = 2 by omega) with rfl | rfl | rfl
    · rw [if_neg (fun h => h rfl), if_pos (show nI 0 = 0 from rfl), gR_e (by omega) hA1.2.1 (r1 hA1).1, aI_e (by omega) (r1 hA1).2 hp (by decide), hR1.2.1]; rfl
    · rw [if_pos (by decide), if_neg (fun h => h rfl), if_neg (by decide), if_pos (show nI 1 = 1 from rfl), gR_e (by omega) hA1.2.1 (r2 hA1).1, aI_e (by omega) (r2 hA1).2 hp (by decide), hR1.2.2.2.1]; rfl
    · rw [if_pos (by decide), if_pos (by decide), if_neg (by decide), if_neg (by decide), if_pos (show nI 2 = 2 from rfl), rv_e (by omega) hA1.2.1, s_R_countEntries hA1 hp hR1, cI_e]; rfl
theorem i6' (p c : Nat) : 6 * nI p + nI c = nI (6 * p + c) := by rw [show (6 : Int32) = nI 6 from rfl, pk_mul, nI_add]
theorem i30' (p c : Nat) : 30 * nI p + nI c = nI (30 * p + c) := by rw [show (30 : Int32) = nI 30 from rfl, pk_mul, nI_add]
theorem i600' (p m k : Nat) : 600 * nI p + 20 * nI m + nI k = nI (600 * p + 20 * m + k) := by rw [show (600 : Int32) = nI 600 from rfl, show (20 : Int32) = nI 20 from rfl, pk_mul, pk_mul, nI_add, nI_add]
theorem s_R_pool (hA : RefAt M) (hp : p < 2) (hR : RepR M p pr) (o : Int32) : OkB M (g_R_pool 268 (nI p) o M) (fun _ => 1) (poolV pr o) := by
  have hz := hA.1
  have h6 := hR.1
  have h9 : g_R_pool 268 (nI p) o M = g_R_pool_9 268 o (nI p) M := by
    unfold g_R_pool
    rcases (show p = 0 ∨ p = 1 by omega) with rfl | rfl
    · rw [if_pos (show nI 0 = 0 from rfl)]; rfl
    · rw [if_neg (by decide)]; rfl
  rw [h9]
  unfold g_R_pool_9 poolV
  rw [rv_e (by omega) hA.2.1, s_R_noClass hA hp hR, cI_e]
  rcases lk_cases pr.1 o (by omega) with ⟨h, hx⟩ | ⟨c, cl, rfl, hc, hcl, h⟩
  · rw [h, if_neg (show ¬ bI (!(none : Option (List CT)).isSome) = 0 by decide)]
    unfold g_R_pool_25
    rw [s_code hA, if_neg (by decide)]
    exact ⟨_, rfl⟩
  · have hA1 : RefAt (xpi M 268 0 0) := hA
    have hz1 := hA1.1
    have hR1 : RepR (xpi M 268 0 0) p pr := hR.code
    rw [h, if_pos (show bI (!(some cl).isSome) = 0 from rfl)]
    unfold g_R_pool_25
    rw [s_code hA, if_pos (show (0 : Int32) ≤ 0 by decide), gR_e (by omega) hA1.2.1 (r3 hA1).1, i6', aI_e (by omega) (r3 hA1).2 (by omega) (by decide), (hR1.2.2.2.2.1 c cl hcl).2.1]
    rfl
theorem s_R_constantAt (hA : RefAt M) (hp : p < 2) (hR : RepR M p pr) (o x w : Int32) : OkB M (g_R_constantAt 268 (nI p) o x w M) id (constAtV pr o x w) := by
  have hz := hA.1
  have h6 := hR.1
  have h9 : g_R_constantAt 268 (nI p) o x w M = g_R_constantAt_9 268 o x w (nI p) M := by
    unfold g_R_constantAt
    rcases (show p = 0 ∨ p = 1 by omega) with rfl | rfl
    · rw [if_pos (show nI 0 = 0 from rfl)]; rfl
    · rw [if_neg (by decide)]; rfl
  have h42 : ∃ v, g_R_constantAt_42 268 o x w (nI p) 268 M = rI v (xpi M 268 0 1) := by
    unfold g_R_constantAt_42 g_R_constantAt_62
    rw [s_code hA, if_neg (by decide)]
    exact ⟨_, rfl⟩
  have h57 : ∃ v, g_R_constantAt_57 268 o x w (nI p) 268 M = rI v (xpi M 268 0 2) := by
    unfold g_R_constantAt_57 g_R_constantAt_62
    rw [s_code hA, if_neg (by decide)]
    exact ⟨_, rfl⟩
  rw [h9]
  unfold g_R_constantAt_9 constAtV
  rw [rv_e (by omega) hA.2.1, s_R_noClass hA hp hR, cI_e]
  rcases lk_cases pr.1 o (by omega) with ⟨h, hx⟩ | ⟨c, cl, rfl, hc, hcl, h⟩
  · rw [h, if_pos (show ¬ bI (!(none : Option (List CT)).isSome) = 0 by decide)]
    exact h42
  · have hA1 : RefAt (xpi M 268 0 0) := hA
    have hz1 := hA1.1
    have hR1 : RepR (xpi M 268 0 0) p pr := hR.code
    obtain ⟨hl, g2, -⟩ := hR.2.2.2.2.1 c cl hcl
    rw [h, if_neg (show ¬ ¬ bI (!(some cl).isSome) = 0 from fun h => h rfl)]
    simp only
    rcases lk_cases cl x (by omega) with ⟨h, hx⟩ | ⟨j, q, rfl, hj, hq, h⟩
    · rw [h]
      by_cases hx0 : x < 0
      · rw [if_pos hx0]; exact h42
      · rw [if_neg hx0, gR_e (by omega) hA.2.1 (r3 hA).1, i6', aI_e (by omega) (r3 hA).2 (by omega) (by decide), g2, if_neg (Int32.not_lt.mpr (hx.resolve_left hx0))]; exact h42
    · rw [h, if_neg (nI_pos (by omega)), gR_e (by omega) hA.2.1 (r3 hA).1, i6', aI_e (by omega) (r3 hA).2 (by omega) (by decide), g2, if_pos (nI_lt hj (by omega))]
      simp only
      rcases w2_cases w 2 (by decide) with h | ⟨h1, h2, h3⟩ | ⟨k, hk, rfl⟩
      · rw [if_pos h, if_neg (fun e => by rw [e] at h; revert h; decide), if_neg (fun e => by rw [e] at h; revert h; decide), if_neg (fun e => by rw [e] at h; revert h; decide)]
        exact h57
      · rw [if_neg h1, if_neg (show ¬ w ≤ 2 from h2), if_neg (show ¬ w = 0 from h3 0 (by decide)), if_neg (show ¬ w = 1 from h3 1 (by decide)), if_neg (show ¬ w = 2 from h3 2 (by decide))]
        exact h57
      · obtain ⟨e1, e2, e3⟩ := (hR1.2.2.2.2.1 c cl hcl).2.2 j q hq
        rw [if_neg (nI_pos (by omega)), if_pos (show nI k ≤ 2 from nI_le (b := 2) hk (by decide))]
        unfold g_R_constantAt_62
        rw [s_code hA, if_pos (show (0 : Int32) ≤ 0 by decide), s_R_base, cI_e, nI_add]
        rcases (show k = 0 ∨ k = 1 ∨ k = 2 by omega) with rfl | rfl | rfl
        · rw [if_neg (fun h => h rfl), if_pos (show nI 0 = 0 from rfl), gR_e (by omega) hA1.2.1 (r4 hA1).1, aI_e (by omega) (r4 hA1).2 (by omega) (by decide), e1]; rfl
        · rw [if_pos (by decide), if_neg (fun h => h rfl), if_neg (by decide), if_pos (show nI 1 = 1 from rfl), gR_e (by omega) hA1.2.1 (r5 hA1).1, aI_e (by omega) (r5 hA1).2 (by omega) (by decide), e2]; rfl
        · rw [if_pos (by decide), if_pos (by decide), if_neg (by decide), if_neg (by decide), if_pos (show nI 2 = 2 from rfl), gR_e (by omega) hA1.2.1 (r6 hA1).1, aI_e (by omega) (r6 hA1).2 (by omega) (by decide), e3]; rfl
theorem s_R_memberAt (hA : RefAt M) (hp : p < 2) (hR : RepR M p pr) (hW : WF pr) (o w : Int32) : OkB M (g_R_memberAt 268 (nI p) o w M) id (membAtV pr o w) := by
  have hz := hA.1
  have h6 := hR.2.2.1
  have h9 : g_R_memberAt 268 (nI p) o w M = g_R_memberAt_9 268 o w (nI p) M := by
    unfold g_R_memberAt
    rcases (show p = 0 ∨ p = 1 by omega) with rfl | rfl
    · rw [if_pos (show nI 0 = 0 from rfl)]; rfl
    · rw [if_neg (by decide)]; rfl
  have h40 : ∃ v, g_R_memberAt_40 268 o w (nI p) 268 1 M = rI v (xpi M 268 0 1) := by
    unfold g_R_memberAt_40
    rw [s_code hA, if_neg (by decide)]
    exact ⟨_, rfl⟩
  have h35 : ∃ v, g_R_memberAt_35 268 o w (nI p) 268 M = rI v (xpi M 268 0 2) := by
    unfold g_R_memberAt_35 g_R_memberAt_40
    rw [s_code hA, if_neg (by decide)]
    exact ⟨_, rfl⟩
  rw [h9]
  unfold g_R_memberAt_9 membAtV
  rw [rv_e (by omega) hA.2.1, s_R_noMember hA hp hR, cI_e]
  rcases lk_cases pr.2 o (by omega) with ⟨h, hx⟩ | ⟨m, b, rfl, hm, hb, h⟩
  · rw [h, if_neg (show ¬ bI (!(none : Option MB).isSome) = 0 by decide)]
    exact h40
  · have hA1 : RefAt (xpi M 268 0 0) := hA
    have hz1 := hA1.1
    have hR1 : RepR (xpi M 268 0 0) p pr := hR.code
    obtain ⟨e1, e2, e3, e4, e5, -⟩ := hR1.2.2.2.2.2 m b hb
    rw [h, if_pos (show bI (!(some b).isSome) = 0 from rfl)]
    simp only
    rcases w2_cases w 5 (by decide) with h | ⟨h1, h2, h3⟩ | ⟨k, hk, rfl⟩
    · rw [if_pos h, if_neg (fun e => by rw [e] at h; revert h; decide), if_neg (fun e => by rw [e] at h; revert h; decide), if_neg (fun e => by rw [e] at h; revert h; decide), if_neg (fun e => by rw [e] at h; revert h; decide), if_neg (fun e => by rw [e] at h; revert h; decide), if_neg (fun e => by rw [e] at h; revert h; decide)]
      exact h35
    · rw [if_neg h1, if_neg (show ¬ w ≤ 5 from h2), if_neg (show ¬ w = 0 from h3 0 (by decide)), if_neg (show ¬ w = 1 from h3 1 (by decide)), if_neg (show ¬ w = 2 from h3 2 (by decide)), if_neg (show ¬ w = 3 from h3 3 (by decide)), if_neg (show ¬ w = 4 from h3 4 (by decide)), if_neg (show ¬ w = 5 from h3 5 (by decide))]
      exact h35
    · rw [if_neg (nI_pos (by omega)), if_pos (show nI k ≤ 5 from nI_le (b := 5) hk (by decide))]
      unfold g_R_memberAt_40
      rw [s_code hA, if_pos (show (0 : Int32) ≤ 0 by decide), i30']
      rcases (show k = 0 ∨ k = 1 ∨ k = 2 ∨ k = 3 ∨ k = 4 ∨ k = 5 by omega) with rfl | rfl | rfl | rfl | rfl | rfl
      · rw [if_pos (show nI 0 = 0 from rfl), if_pos (show nI 0 = 0 from rfl), gR_e (by omega) hA1.2.1 (r7 hA1).1, aI_e (by omega) (r7 hA1).2 (by omega) (by decide), e1]; rfl
      · simp only [show ¬ nI 1 = 0 by decide, if_false]
        rw [if_pos (show nI 1 = 1 from rfl), if_pos (show nI 1 = 1 from rfl), gR_e (by omega) hA1.2.1 (r8 hA1).1, aI_e (by omega) (r8 hA1).2 (by omega) (by decide), e2]; rfl
      · simp only [show ¬ nI 2 = 0 by decide, show ¬ nI 2 = 1 by decide, if_false]
        rw [if_pos (show nI 2 = 2 from rfl), if_pos (show nI 2 = 2 from rfl), gR_e (by omega) hA1.2.1 (r9 hA1).1, aI_e (by omega) (r9 hA1).2 (by omega) (by decide), e3]; rfl
      · simp only [show ¬ nI 3 = 0 by decide, show ¬ nI 3 = 1 by decide, show ¬ nI 3 = 2 by decide, if_false]
        rw [if_pos (show nI 3 = 3 from rfl), if_pos (show nI 3 = 3 from rfl), gR_e (by omega) hA1.2.1 (r10 hA1).1, aI_e (by omega) (r10 hA1).2 (by omega) (by decide), e5]; rfl
      · simp only [show ¬ nI 4 = 0 by decide, show ¬ nI 4 = 1 by decide, show ¬ nI 4 = 2 by decide, show ¬ nI 4 = 3 by decide, if_false]
        rw [if_pos (show nI 4 = 4 from rfl), if_pos (show nI 4 = 4 from rfl), gR_e (by omega) hA1.2.1 (r11 hA1).1, aZ_e (by omega) (r11 hA1).2 (by omega) (by decide), e4]
        by_cases h0 : b.2.2.2.1 = 0
        · rw [if_pos h0, if_pos h0]; rfl
        · rw [if_neg h0, if_neg h0]; rfl
      · simp only [show ¬ nI 5 = 0 by decide, show ¬ nI 5 = 1 by decide, show ¬ nI 5 = 2 by decide, show ¬ nI 5 = 3 by decide, show ¬ nI 5 = 4 by decide, if_false]
        rw [if_pos (show nI 5 = 5 from rfl), rv_e (by omega) hA1.2.1, s_R_nameOf hA1 hp hR1 hW hb, cI_e]; rfl
theorem s_R_codeAt (hA : RefAt M) (hp : p < 2) (hR : RepR M p pr) (hW : WF pr) (o k : Int32) : OkB M (g_R_codeAt 268 (nI p) o k M) (fun _ => 1) (codeAtV pr o k) := by
  have hz := hA.1
  have h6 := hR.2.2.1
  have h9 : g_R_codeAt 268 (nI p) o k M = g_R_codeAt_9 268 o k (nI p) M := by
    unfold g_R_codeAt
    rcases (show p = 0 ∨ p = 1 by omega) with rfl | rfl
    · rw [if_pos (show nI 0 = 0 from rfl)]; rfl
    · rw [if_neg (by decide)]; rfl
  have h42 : ∃ v, g_R_codeAt_42 268 o k (nI p) 268 M = rI v (xpi M 268 0 1) := by
    unfold g_R_codeAt_42 g_R_codeAt_47
    rw [s_code hA, if_neg (by decide)]
    exact ⟨_, rfl⟩
  rw [h9]
  unfold g_R_codeAt_9 codeAtV
  rw [rv_e (by omega) hA.2.1, s_R_noMethod hA hp hR hW, cI_e]
  cases hno : noMeth pr o with
  | true => rw [if_pos (by decide), if_pos rfl]; exact h42
  | false =>
    rw [if_neg (fun h => h rfl), if_neg (show ¬ (false = true) by decide)]
    rcases lk_cases pr.2 o (by omega) with ⟨h, hx⟩ | ⟨m, b, rfl, hm, hb, h⟩
    · unfold noMeth at hno; rw [h] at hno; cases hno
    · have hA1 : RefAt (xpi M 268 0 0) := hA
      have hz1 := hA1.1
      have hR1 : RepR (xpi M 268 0 0) p pr := hR.code
      obtain ⟨e1, e2, e3, e4, e5, e6, -⟩ := hR.2.2.2.2.2 m b hb
      rw [h]
      simp only
      rcases lk_cases b.2.2.2.2 k (by omega) with ⟨h, hx⟩ | ⟨j, i, rfl, hj, hi, h⟩
      · rw [h]
        by_cases hx0 : k < 0
        · rw [if_pos hx0]; exact h42
        · rw [if_neg hx0, gR_e (by omega) hA.2.1 (r10 hA).1, i30', aI_e (by omega) (r10 hA).2 (by omega) (by decide), e5, if_neg (Int32.not_lt.mpr (hx.resolve_left hx0))]; exact h42
      · have e := (hR1.2.2.2.2.2 m b hb).2.2.2.2.2.2 j i hi
        rw [h, if_neg (nI_pos (by omega)), gR_e (by omega) hA.2.1 (r10 hA).1, i30', aI_e (by omega) (r10 hA).2 (by omega) (by decide), e5, if_pos (nI_lt hj (by omega))]
        unfold g_R_codeAt_47
        rw [s_code hA, if_pos (show (0 : Int32) ≤ 0 by decide), gR_e (by omega) hA1.2.1 (r12 hA1).1, i600', aI_e (by omega) (r12 hA1).2 (by omega) (by decide), e.1, gR_e (by omega) hA1.2.1 (r13 hA1).1, aI_e (by omega) (r13 hA1).2 (by omega) (by decide), e.2]
        rfl
theorem s_R_moved (hA : RefAt M) (x : Int32) : g_R_moved 268 x M = rI (movedV M 282 x) (xpi M 268 0 0) := by
  have hA1 : RefAt (xpi M 268 0 0) := hA
  have hz1 := hA1.1
  unfold g_R_moved movedV
  rw [s_cd hA]
  rcases w2_cases x 29 (by decide) with h | ⟨h1, h2, -⟩ | ⟨j, hj, rfl⟩
  · rw [if_pos h, if_pos h]
  · have h2' : ¬ x ≤ 29 := h2
    have h3 : (30 : Int32) ≤ x := by
      rw [Int32.le_iff_toInt_le, show (29 : Int32).toInt = 29 by decide] at h2'
      rw [Int32.le_iff_toInt_le, show (30 : Int32).toInt = 30 by decide]
      omega
    rw [if_neg h1, if_neg h1, if_neg h2', if_pos h3]
  · rw [if_neg (nI_pos (by omega)), if_neg (nI_pos (by omega)), if_pos (show nI j ≤ 29 from nI_le (b := 29) hj (by decide)), if_neg (show ¬ (30 : Int32) ≤ nI j from nI_ge (b := 30) (by omega) (by decide)), gR_e (by omega) hA1.2.1 (r14 hA1).1, aI_e (by omega) (r14 hA1).2 (by omega) (by decide), nI_clamp (by omega), xi_ne1 (by decide)]
end PQ
