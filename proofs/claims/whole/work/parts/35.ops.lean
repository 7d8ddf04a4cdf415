/-! the class's calls that build a program -/
def allowK (pr : PR) (cl : List CT) (k a b : Int32) : Bool :=
  if k = 0 then true else if k = 1 then inV a 100 else if k = 2 then (lk pr.1 a).isSome else if k = 3 ∨ k = 4 then holdsV cl a 2 && holdsV cl b 1 else false
def allowM (pr : PR) (cl : List CT) (ow nm ar : Int32) : Bool := holdsV cl nm 1 && (!(decide (ar < -1)) && (decide (ar ≤ 2) && decide (findV pr ow (firstV cl nm) (decide (ar = -1)) = -1)))
abbrev OR : Type := (Int32 × PR) ⊕ Nat
def addV (pr : PR) : OR := if pr.1.length < 6 then .inl (nI pr.1.length, (pr.1 ++ [[]], pr.2)) else .inr 0
def constV (pr : PR) (o k a b : Int32) : OR := match lk pr.1 o with
  | none => .inr 1
  | some cl => if allowK pr cl k a b = true then (if cl.length < 20 then .inl (nI cl.length, (pr.1.set o.toNatClampNeg (cl ++ [(k, a, if k = 3 ∨ k = 4 then b else 0)]), pr.2)) else .inr 0) else .inr 2
def membV (pr : PR) (o nm ar : Int32) : OR := match lk pr.1 o with
  | none => .inr 1
  | some cl => if allowM pr cl o nm ar = true then (if pr.2.length < 30 then .inl (nI pr.2.length, (pr.1, pr.2 ++ [(o, nm, ar, 0, [])])) else .inr 0) else .inr 2
def codeV (pr : PR) (m w x : Int32) : OR := if noMeth pr m = true then .inr 1 else match lk pr.2 m with
  | none => .inr 1
  | some b => if w < 0 ∨ ¬ w ≤ 12 then .inr 2 else if b.2.2.2.2.length < 20 then .inl (nI b.2.2.2.2.length, (pr.1, pr.2.set m.toNatClampNeg (b.1, b.2.1, b.2.2.1, b.2.2.2.1, b.2.2.2.2 ++ [(w, x)]))) else .inr 0
def entrV (pr : PR) (m is : Int32) : Option PR := if noMeth pr m = true then none else match lk pr.2 m with
  | none => none
  | some b => some (pr.1, pr.2.set m.toNatClampNeg (b.1, b.2.1, b.2.2.1, is, b.2.2.2.2))
def OkC (M : XM) (g : XP) (r : OR) : Prop := match r with
  | .inl (v, pr') => ∃ N, g = rI v N ∧ RepC N 2 pr' ∧ Upd 2 119 M N
  | .inr e => g = some (.inr (xz M), xnw M (40 + e) 0 6)
section PO
variable {M : XM} {P : Nat} {cl : List CT} {b : MB} {pr : PR}
theorem s_P_hasClass (hA : ProgAt M P) (hR : RepC M P pr) (x : Int32) : g_P_hasClass P x M = rB (lk pr.1 x).isSome M := by
  have hz := hA.1
  have hl := hR.1
  unfold g_P_hasClass
  rcases lk_cases pr.1 x (by omega) with ⟨h, hx⟩ | ⟨j, q, rfl, hj, hq, h⟩
  · rw [h]
    by_cases hx0 : x < 0
    · rw [if_pos hx0, z0_e]; rfl
    · rw [if_neg hx0, gI_e (by omega) hA.2.1, hR.2.1, if_pos (hx.resolve_left hx0), z0_e]; rfl
  · rw [h, if_neg (nI_pos (by omega)), gI_e (by omega) hA.2.1, hR.2.1, if_neg (nI_ge hj (by omega)), z1_e]; rfl
theorem s_P_hasMember (hA : ProgAt M P) (hR : RepC M P pr) (x : Int32) : g_P_hasMember P x M = rB (lk pr.2 x).isSome M := by
  have hz := hA.1
  have hl := hR.2.2.1
  unfold g_P_hasMember
  rcases lk_cases pr.2 x (by omega) with ⟨h, hx⟩ | ⟨j, q, rfl, hj, hq, h⟩
  · rw [h]
    by_cases hx0 : x < 0
    · rw [if_pos hx0, z0_e]; rfl
    · rw [if_neg hx0, gI_e (by omega) hA.2.1, hR.2.2.2.1, if_pos (hx.resolve_left hx0), z0_e]; rfl
  · rw [h, if_neg (nI_pos (by omega)), gI_e (by omega) hA.2.1, hR.2.2.2.1, if_neg (nI_ge hj (by omega)), z1_e]; rfl
theorem s_P_hasMethod (hA : ProgAt M P) (hR : RepC M P pr) (x : Int32) : g_P_hasMethod P x M = rB (!noMeth pr x) M := by
  have hz := hA.1
  have hl := hR.2.2.1
  unfold g_P_hasMethod noMeth
  rw [rv_e (by omega) hA.2.1, s_P_hasMember hA hR, cI_e]
  rcases lk_cases pr.2 x (by omega) with ⟨h, hx⟩ | ⟨j, q, rfl, hj, hq, h⟩
  · rw [h, if_pos (show bI (none : Option MB).isSome = 0 from rfl), z0_e]; rfl
  · obtain ⟨hm30, hxr, hMa, hMi⟩ := hR.memb hA hq
    have hza := hMa.1
    rw [h, if_neg bI_some, gR_e (by omega) hA.2.1 hA.2.2.2.2.2.1, aR_e (by omega) hA.2.2.2.1 hm30 (by decide) hxr, rv_e (by omega) hMa.2.1, s_B_isField hMa hMi, cI_e]
    simp only
    cases hf : isF q with
    | true => rw [if_pos (bI_t.mpr rfl), z0_e]; rfl
    | false => rw [if_neg (fun h => h rfl), z1_e]; rfl
theorem s_P_allowsConstant (hA : ProgAt M P) (hR : RepC M P pr) {c : Nat} (hc : pr.1[c]? = some cl) (k a b : Int32) : g_P_allowsConstant P (nI c) k a b M = rB (allowK pr cl k a b) M := by
  have hz := hA.1
  obtain ⟨hc6, hxc, hPa, hPi⟩ := hR.pool hA hc
  have hzp := hPa.1
  unfold g_P_allowsConstant allowK
  by_cases k0 : k = 0
  · rw [if_pos k0, if_pos k0, z1_e]; rfl
  rw [if_neg k0, if_neg k0]
  by_cases k1 : k = 1
  · rw [if_pos k1, if_pos k1]
    exact s_sound_in (n := 100) (A := fun _ => if 100 ≤ a then z01 0 (some (.inl (some (.int 0)), M)) else z01 1 (some (.inl (some (.int 1)), M))) rfl
  rw [if_neg k1, if_neg k1]
  by_cases k2 : k = 2
  · rw [if_pos k2, if_pos k2, rv_e (by omega) hA.2.1, s_P_hasClass hA hR, cI_e, zB_e]
  rw [if_neg k2, if_neg k2]
  have h60 : g_P_allowsConstant_60 P (nI c) a b M = rB (holdsV cl a 2 && holdsV cl b 1) M := by
    unfold g_P_allowsConstant_60
    rw [gR_e (by omega) hA.2.1 hA.2.2.2.2.1, aR_e (by omega) hA.2.2.1 hc6 (by decide) hxc, rv_e (by omega) hPa.2.1, s_Q_holds hPa hPi, cI_e]
    cases h1 : holdsV cl a 2 with
    | false => rw [if_pos (show bI false = 0 from rfl), z0_e]; rfl
    | true =>
      rw [if_neg (by decide), gR_e (by omega) hA.2.1 hA.2.2.2.2.1, aR_e (by omega) hA.2.2.1 hc6 (by decide) hxc, rv_e (by omega) hPa.2.1, s_Q_holds hPa hPi, cI_e]
      cases h2 : holdsV cl b 1 with
      | false => rw [if_pos (show bI false = 0 from rfl), z0_e]; rfl
      | true => rw [if_neg (by decide), z1_e]; rfl
  by_cases k3 : k = 3
  · rw [if_pos k3, if_pos (Or.inl k3)]; exact h60
  by_cases k4 : k = 4
  · rw [if_neg k3, if_pos k4, if_pos (Or.inr k4)]; exact h60
  rw [if_neg k3, if_neg k4, if_neg (show ¬ (k = 3 ∨ k = 4) by simp [k3, k4]), z0_e]; rfl
theorem s_P_allowsMember (hA : ProgAt M P) (hR : RepC M P pr) (hW : WF pr) {c : Nat} (hc : pr.1[c]? = some cl) (nm ar : Int32) : g_P_allowsMember P (nI c) nm ar M = rB (allowM pr cl (nI c) nm ar) M := by
  have hz := hA.1
  obtain ⟨hc6, hxc, hPa, hPi⟩ := hR.pool hA hc
  have hzp := hPa.1
  have hl2 := hPi.1
  unfold g_P_allowsMember allowM
  rw [gR_e (by omega) hA.2.1 hA.2.2.2.2.1, aR_e (by omega) hA.2.2.1 hc6 (by decide) hxc, rv_e (by omega) hPa.2.1, s_Q_holds hPa hPi, cI_e]
  cases h1 : holdsV cl nm 1 with
  | false => rw [if_neg (fun h => h rfl), z0_e]; rfl
  | true =>
    have hq : ∃ (j : Nat) (q : CT), nm = nI j ∧ cl[j]? = some q ∧ j < cl.length ∧ firstV cl nm = q.2.1 := by
      unfold holdsV at h1
      rcases lk_cases cl nm (by omega) with ⟨h, -⟩ | ⟨j, q, rfl, hj, hq, h⟩
      · rw [h] at h1; cases h1
      · exact ⟨j, q, rfl, hq, hj, by unfold firstV; rw [h]⟩
    obtain ⟨j, q, rfl, hq, hj, hf⟩ := hq
    rw [if_pos (bI_t.mpr rfl)]
    by_cases a1 : ar < -1
    · rw [if_pos a1, z0_e]; simp [a1, bI]
    rw [if_neg a1]
    by_cases a2 : ar ≤ 2
    · rw [if_pos a2, gR_e (by omega) hA.2.1 hA.2.2.2.2.1, aR_e (by omega) hA.2.2.1 hc6 (by decide) hxc, gR_e (by omega) hPa.2.1 hPa.2.2.2.2.2.2.1, aI_e (by omega) hPa.2.2.2.1 (by omega) (by decide), (hPi.2.2 j q hq).2.1, hf]
      have h55 : ∀ fl : Bool, g_P_allowsMember_55 P (nI c) q.2.1 (bI fl) M = rB (decide (findV pr (nI c) q.2.1 fl = -1)) M := by
        intro fl
        unfold g_P_allowsMember_55
        rw [rv_e (by omega) hA.2.1, s_P_find hA hR hW, cI_e]
        by_cases hf : findV pr (nI c) q.2.1 fl = -1
        · rw [if_neg (fun h => h hf), z1_e]; simp [hf, bI]
        · rw [if_pos hf, z0_e]; simp [hf, bI]
      by_cases a3 : ar = -1
      · rw [if_neg (fun h => h a3)]
        refine (h55 true).trans ?_
        rw [show decide (ar < -1) = false by simp [a1], show decide (ar ≤ 2) = true by simp [a2], show decide (ar = -1) = true by simp [a3]]
        simp
      · rw [if_pos a3]
        refine (h55 false).trans ?_
        rw [show decide (ar < -1) = false by simp [a1], show decide (ar ≤ 2) = true by simp [a2], show decide (ar = -1) = false by simp [a3]]
        simp
    · rw [if_neg a2, z0_e]; simp [a2, bI]
theorem s_S_add (hL : Lay M) (hR : RepC M 2 pr) (hz : xz M < ZM) (hu : xu M + 6 ≤ UM) : OkC M (g_S_add 1 M) (addV pr) := by
  obtain ⟨l0, l1, l2, l3, l4, l5, l6, hA, -⟩ := id hL
  unfold g_S_add addV
  rw [gR_e (by omega) l1 l2, gI_e (by omega) hA.2.1, hR.2.1]
  by_cases h : pr.1.length < 6
  · obtain ⟨N, h1, h2, h3⟩ := s_P_startClass hA hR h
    rw [if_pos (show nI pr.1.length < 6 from nI_lt (b := 6) h (by decide)), gR_e (by omega) l1 l2, rv_e (by omega) hA.2.1, h1, cI_e, if_pos h]
    exact ⟨N, rfl, h2, h3⟩
  · have h6 := hR.1
    rw [if_neg (show ¬ nI pr.1.length < 6 from nI_nlt (b := 6) (by omega) (by omega)), if_neg h]
    exact tX_e hz hu
theorem s_S_constant (hL : Lay M) (hR : RepC M 2 pr) (hz : xz M < ZM) (hu : xu M + 6 ≤ UM) (o k a b : Int32) : OkC M (g_S_constant 1 o k a b M) (constV pr o k a b) := by
  obtain ⟨l0, l1, l2, l3, l4, l5, l6, hA, -⟩ := id hL
  have h6 := hR.1
  unfold g_S_constant constV
  rw [gR_e (by omega) l1 l2, rv_e (by omega) hA.2.1, s_P_hasClass hA hR, cI_e]
  rcases lk_cases pr.1 o (by omega) with ⟨h, hx⟩ | ⟨c, cl, rfl, hc, hcl, h⟩
  · rw [h, if_neg (fun h => h rfl)]
    exact tX_e hz hu
  · obtain ⟨hc6, hxc, hPa, hPi⟩ := hR.pool hA hcl
    have hzp := hPa.1
    have hl2 := hPi.1
    rw [h, if_pos bI_some, gR_e (by omega) l1 l2, rv_e (by omega) hA.2.1, s_P_allowsConstant hA hR hcl, cI_e]
    simp only
    cases ha : allowK pr cl k a b with
    | false => rw [if_neg (fun h => h rfl), if_neg (by decide)]; exact tX_e hz hu
    | true =>
      rw [if_pos (bI_t.mpr rfl), if_pos rfl, gR_e (by omega) l1 l2, gR_e (by omega) hA.2.1 hA.2.2.2.2.1, aR_e (by omega) hA.2.2.1 hc6 (by decide) hxc, gI_e (by omega) hPa.2.1, hPi.2.1]
      by_cases hn : cl.length < 20
      · rw [if_pos (show nI cl.length < 20 from nI_lt (b := 20) hn (by decide)), if_pos hn, s_hasTwo, cI_e, nI_clamp (by omega)]
        have key : ∀ y : Int32, (rv M 22 (2 + 3 + 4 * c) <| cI (g_Q_append (2 + 3 + 4 * c) k a y M) fun t M1 => some (.inl (some (.int t)), M1)) = (rv M 22 (2 + 3 + 4 * c) <| cI (g_Q_append (2 + 3 + 4 * c) k a y M) fun t M1 => some (.inl (some (.int t)), M1)) → OkC M (rv M 22 (2 + 3 + 4 * c) <| cI (g_Q_append (2 + 3 + 4 * c) k a y M) fun t M1 => some (.inl (some (.int t)), M1)) (.inl (nI cl.length, (pr.1.set c (cl ++ [(k, a, y)]), pr.2))) := by
          intro y _
          obtain ⟨N, h1, h2, h3⟩ := s_Q_append hPa hPi hn k a y
          rw [rv_e (by omega) hPa.2.1, h1, cI_e]
          exact ⟨N, rfl, hR.setPool hc h2 h3, h3.wide (by omega) (by omega)⟩
        by_cases h34 : k = 3 ∨ k = 4
        · rw [if_neg (bI_t.mpr (by simp [h34])), if_pos h34]
          exact key b rfl
        · rw [if_pos (bI_0.mpr (by simp [h34])), if_neg h34]
          exact key 0 rfl
      · rw [if_neg (show ¬ nI cl.length < 20 from nI_nlt (b := 20) (by omega) (by omega)), if_neg hn]
        exact tX_e hz hu
theorem s_S_member (hL : Lay M) (hR : RepC M 2 pr) (hW : WF pr) (hz : xz M < ZM) (hu : xu M + 6 ≤ UM) (o nm ar : Int32) : OkC M (g_S_member 1 o nm ar M) (membV pr o nm ar) := by
  obtain ⟨l0, l1, l2, l3, l4, l5, l6, hA, -⟩ := id hL
  have h6 := hR.1
  have h30 := hR.2.2.1
  unfold g_S_member membV
  rw [gR_e (by omega) l1 l2, rv_e (by omega) hA.2.1, s_P_hasClass hA hR, cI_e]
  rcases lk_cases pr.1 o (by omega) with ⟨h, hx⟩ | ⟨c, cl, rfl, hc, hcl, h⟩
  · rw [h, if_neg (fun h => h rfl)]
    exact tX_e hz hu
  · rw [h, if_pos bI_some, gR_e (by omega) l1 l2, rv_e (by omega) hA.2.1, s_P_allowsMember hA hR hW hcl, cI_e]
    simp only
    cases ha : allowM pr cl (nI c) nm ar with
    | false => rw [if_neg (fun h => h rfl), if_neg (by decide)]; exact tX_e hz hu
    | true =>
      rw [if_pos (bI_t.mpr rfl), if_pos rfl, gR_e (by omega) l1 l2, gI_e (by omega) hA.2.1, hR.2.2.2.1]
      by_cases hn : pr.2.length < 30
      · obtain ⟨N, h1, h2, h3⟩ := s_P_startMember hA hR hn (nI c) nm ar
        rw [if_pos (show nI pr.2.length < 30 from nI_lt (b := 30) hn (by decide)), if_pos hn, gR_e (by omega) l1 l2, rv_e (by omega) hA.2.1, h1, cI_e]
        exact ⟨N, rfl, h2, h3⟩
      · rw [if_neg (show ¬ nI pr.2.length < 30 from nI_nlt (b := 30) (by omega) (by omega)), if_neg hn]
        exact tX_e hz hu
theorem s_S_code (hL : Lay M) (hR : RepC M 2 pr) (hz : xz M < ZM) (hu : xu M + 6 ≤ UM) (m w x : Int32) : OkC M (g_S_code 1 m w x M) (codeV pr m w x) := by
  obtain ⟨l0, l1, l2, l3, l4, l5, l6, hA, -⟩ := id hL
  have h30 := hR.2.2.1
  unfold g_S_code codeV
  rw [gR_e (by omega) l1 l2, rv_e (by omega) hA.2.1, s_P_hasMethod hA hR, cI_e]
  cases hm : noMeth pr m with
  | true => rw [if_neg (fun h => h rfl), if_pos rfl]; exact tX_e hz hu
  | false =>
    rw [if_pos (show ¬ bI (!false) = 0 by decide), if_neg (show ¬ (false = true) by decide)]
    rcases lk_cases pr.2 m (by omega) with ⟨h, hx⟩ | ⟨i, b, rfl, hi, hb, h⟩
    · unfold noMeth at hm; rw [h] at hm; cases hm
    · obtain ⟨hm30, hxr, hMa, hMi⟩ := hR.memb hA hb
      have hza := hMa.1
      have hlen := hMi.2.2.2.2.2.1
      rw [h]
      simp only
      by_cases w1 : w < 0
      · rw [if_pos w1, if_pos (Or.inl w1)]; exact tX_e hz hu
      rw [if_neg w1]
      by_cases w2 : w ≤ 12
      · rw [if_pos w2, if_neg (by simp [w1, w2]), gR_e (by omega) l1 l2, gR_e (by omega) hA.2.1 hA.2.2.2.2.2.1, aR_e (by omega) hA.2.2.2.1 hm30 (by decide) hxr, gI_e (by omega) hMa.2.1, hMi.2.2.2.2.1]
        by_cases hn : b.2.2.2.2.length < 20
        · obtain ⟨N, h1, h2, h3⟩ := s_B_append hMa hMi hn w x
          rw [if_pos (show nI b.2.2.2.2.length < 20 from nI_lt (b := 20) hn (by decide)), if_pos hn, rv_e (by omega) hMa.2.1, h1, cI_e, nI_clamp (by omega)]
          exact ⟨N, rfl, hR.setMemb hi h2 h3, h3.wide (by omega) (by omega)⟩
        · rw [if_neg (show ¬ nI b.2.2.2.2.length < 20 from nI_nlt (b := 20) (by omega) (by omega)), if_neg hn]
          exact tX_e hz hu
      · rw [if_neg w2, if_pos (Or.inr w2)]; exact tX_e hz hu
theorem s_S_entry (hL : Lay M) (hR : RepC M 2 pr) (hz : xz M < ZM) (hu : xu M + 6 ≤ UM) (m is : Int32) (his : is = 0 ∨ is = 1) : match entrV pr m is with
    | some pr' => ∃ N, g_S_entry 1 m is M = rV N ∧ RepC N 2 pr' ∧ Upd 2 119 M N
    | none => g_S_entry 1 m is M = some (.inr (xz M), xnw M 41 0 6) := by
  obtain ⟨l0, l1, l2, l3, l4, l5, l6, hA, -⟩ := id hL
  have h30 := hR.2.2.1
  have hg : g_S_entry 1 m is M = if ¬ bI (!noMeth pr m) = 0 then (gR M 20 1 0 fun t5 => gR M 21 t5 1 fun t6 => aR M 11 t6 m fun t7 => uZ M 23 t7 3 is fun M8 => some (.inl none, M8)) else tX M 1 := by
    unfold g_S_entry
    rw [gR_e (by omega) l1 l2, rv_e (by omega) hA.2.1, s_P_hasMethod hA hR, cI_e]
  rw [hg]
  cases hm : noMeth pr m with
  | true =>
    have he : entrV pr m is = none := by unfold entrV; rw [if_pos hm]
    rw [he]
    simp only
    rw [if_neg (show ¬ ¬ bI (!true) = 0 by decide)]
    exact tX_e hz hu
  | false =>
    rcases lk_cases pr.2 m (by omega) with ⟨h, hx⟩ | ⟨i, b, rfl, hi, hb, h⟩
    · unfold noMeth at hm; rw [h] at hm; cases hm
    · obtain ⟨hm30, hxr, hMa, hMi⟩ := hR.memb hA hb
      have hza := hMa.1
      have he : entrV pr (nI i) is = some (pr.1, pr.2.set i (b.1, b.2.1, b.2.2.1, is, b.2.2.2.2)) := by
        unfold entrV; rw [if_neg (by rw [hm]; decide), h]; simp only; rw [nI_clamp (by omega)]
      rw [he]
      simp only
      rw [if_pos (show ¬ bI (!false) = 0 by decide), gR_e (by omega) l1 l2, gR_e (by omega) hA.2.1 hA.2.2.2.2.2.1, aR_e (by omega) hA.2.2.2.1 hm30 (by decide) hxr, uZ_e (by omega) hMa.2.1 his]
      have hU : Upd (2 + 27 + 3 * i) (2 + 27 + 3 * i + 3) M (xpi M (2 + 27 + 3 * i) 3 is) := Upd.rf.pi (by omega) (by omega)
      refine ⟨_, rfl, hR.setMemb hi ?_ hU, hU.wide (by omega) (by omega)⟩
      obtain ⟨g1, g2, g3, g4, g5, g6, g7⟩ := hMi
      refine ⟨?_, ?_, ?_, xi_eq _ _ _ _, ?_, g6, fun k q hq => ?_⟩
      · rw [xi_ne (Or.inr (by decide))]; exact g1
      · rw [xi_ne (Or.inr (by decide))]; exact g2
      · rw [xi_ne (Or.inr (by decide))]; exact g3
      · rw [xi_ne (Or.inr (by decide))]; exact g5
      · rw [xi_ne (Or.inl (by omega)), xi_ne (Or.inl (by omega))]; exact g7 k q hq
theorem s_S_clear (hL : Lay M) : ∃ N, g_S_clear 1 M = rV N ∧ RepC N 2 ([], []) ∧ Upd 2 119 M N := by
  obtain ⟨l0, l1, l2, l3, l4, l5, l6, hA, -⟩ := id hL
  obtain ⟨N, h1, h2, h3⟩ := s_P_empty hA
  refine ⟨N, ?_, h2, h3⟩
  unfold g_S_clear
  rw [gR_e (by omega) l1 l2, rv_e (by omega) hA.2.1, h1, cV_e]
theorem s_S_fault (hL : Lay M) (hR : RepC M 2 pr) (hW : WF pr) : g_S_fault 1 M = rI (faultV pr) M := by
  obtain ⟨l0, l1, l2, l3, l4, l5, l6, hA, -⟩ := id hL
  unfold g_S_fault
  rw [gR_e (by omega) l1 l2, rv_e (by omega) hA.2.1, s_P_firstFault hA hR hW, cI_e]
end PO
