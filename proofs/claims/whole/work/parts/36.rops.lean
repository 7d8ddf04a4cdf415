/-! the reference's calls that build a program -/
def OkR (M : XM) (g : XP) (ec : Nat → Nat) (r : OR) : Prop := match r with
  | .inl (v, pr') => ∃ N, g = rI v N ∧ xi N 268 0 = 0 ∧ RepR N 0 pr' ∧ (∀ ps, RepR M 1 ps → RepR N 1 ps) ∧ Upd 268 282 M N
  | .inr e => ∃ v N, g = rI v N ∧ xi N 268 0 = nI (ec e) ∧ Upd 268 269 M N
def ec3 (e : Nat) : Nat := if e = 0 then 3 else e
theorem RefAt.up {lo hi : Nat} {M N : XM} (h : Upd lo hi M N) (hA : RefAt M) : RefAt N := by
  unfold RefAt at *
  rw [h.1, h.2.2.1, h.2.2.2.1]
  exact hA
theorem xi_ne1 {M : XM} {a i b j : Nat} {v : Int32} (h : b ≠ a) : xi (xpi M a i v) b j = xi M b j := xi_ne (Or.inl h)
theorem xi_no {M : XM} {a i b j : Nat} {v : Int32} (h : b ≠ a ∨ j ≠ i) : xi (xpi M a i v) b j = xi M b j := xi_ne h
theorem aI_0 {M : XM} {a n : Nat} {F : Int32 → XP} (h1 : a < xz M) (h2 : xt M a = (0, n)) (hi : 0 < n) (hn : n < 2 ^ 31) : aI M a 0 F = F (xi M a 0) := aI_e (i := 0) h1 h2 hi hn
theorem sI_0 {M : XM} {a n : Nat} {v : Int32} {F : XM → XP} (h1 : a < xz M) (h2 : xt M a = (0, n)) (hi : 0 < n) (hn : n < 2 ^ 31) : sI M a 0 v F = F (xpi M a 0 v) := sI_e (i := 0) h1 h2 hi hn
section PRO
variable {M : XM} {cl : List CT} {b : MB} {pr : PR}
theorem RepR.code {p : Nat} {v : Int32} (h : RepR M p pr) : RepR (xpi M 268 0 v) p pr := h.congr fun b _ _ => xi_row (by omega)
theorem s_code (hA : RefAt M) {v : Int32} {F : XM → Int32 → XP} : (uI M 27 268 0 v fun M1 => gI M1 27 268 0 fun t2 => F M1 t2) = F (xpi M 268 0 v) v := by
  have hz := hA.1
  have hA1 : RefAt (xpi M 268 0 v) := hA
  have hz1 := hA1.1
  rw [uI_e (by omega) hA.2.1, gI_e (by omega) hA1.2.1, xi_eq]
/-- the start of a call that goes well: the code is 0 -/
theorem s_code0 (hA : RefAt M) (hR : RepR M 0 pr) : ∃ M1, xpi M 268 0 0 = M1 ∧ Upd 268 282 M M1 ∧ RefAt M1 ∧ RepR M1 0 pr ∧ xi M1 268 0 = 0 ∧ ∀ ps, RepR M 1 ps → RepR M1 1 ps :=
  ⟨_, rfl, Upd.rf.pi (by decide) (by decide), hA, hR.code, xi_eq _ _ _ _, fun _ h => h.code⟩
theorem s_R_add (hA : RefAt M) (hR : RepR M 0 pr) : OkR M (g_R_add 268 M) (fun _ => 1) (addV pr) := by
  have hz := hA.1
  have h6 := hR.1
  unfold g_R_add addV
  rw [gR_e (by omega) hA.2.1 (r1 hA).1, aI_0 (by omega) (r1 hA).2 (by decide) (by decide), hR.2.1]
  by_cases h : pr.1.length < 6
  · rw [if_pos (show ¬ nI pr.1.length = 6 from fun e => by have := (nI_eq (b := 6) (by omega) (by decide)).mp e; omega), if_pos h]
    unfold g_R_add_17
    obtain ⟨M1, hM1, hU1, hA1, hR1, hc1, hps1⟩ := s_code0 hA hR
    rw [s_code hA, if_pos (show (0 : Int32) ≤ 0 by decide), hM1]
    have hz1 := hA1.1
    have hA2 : RefAt (xpi M1 271 pr.1.length 0) := hA1
    have hz2 := hA2.1
    have hA3 : RefAt (xpi (xpi M1 271 pr.1.length 0) 269 0 (nI (pr.1.length + 1))) := hA1
    have hz3 := hA3.1
    have e1 : xi (xpi M1 271 pr.1.length 0) 269 0 = nI pr.1.length := by rw [xi_ne (Or.inl (by decide))]; exact hR1.2.1
    refine ⟨xpi (xpi M1 271 pr.1.length 0) 269 0 (nI (pr.1.length + 1)), ?_, ?_, ⟨by simp; omega, by rw [xi_eq]; simp, hR1.2.2.1, ?_, fun c cl hc => ?_, fun m b hm => ?_⟩, fun ps hp => ?_, (hU1.pi (by decide) (by decide)).pi (by decide) (by decide)⟩
    · rw [gR_e (by omega) hA1.2.1 (r3 hA1).1, gR_e (by omega) hA1.2.1 (r1 hA1).1, aI_0 (by omega) (r1 hA1).2 (by decide) (by decide), hR1.2.1, sI_e (by omega) (r3 hA1).2 (by omega) (by decide), gR_e (by omega) hA2.2.1 (r1 hA2).1, aI_0 (by omega) (r1 hA2).2 (by decide) (by decide), e1,
        nI_1, sI_0 (by omega) (r1 hA2).2 (by decide) (by decide), gR_e (by omega) hA3.2.1 (r1 hA3).1, aI_0 (by omega) (r1 hA3).2 (by decide) (by decide), xi_eq, nI_pred]
    · simp (disch := decide) only [xi_ne1]; exact hc1
    · simp (disch := decide) only [xi_ne1]; exact hR1.2.2.2.1
    · rcases snocC hc with ⟨hlt, h⟩ | ⟨rfl, rfl⟩
      · obtain ⟨g1, g2, g3⟩ := hR1.2.2.2.2.1 c cl h
        simp (disch := decide) only [xi_ne1]
        exact ⟨g1, by rw [xi_ne (Or.inr (by omega))]; exact g2, g3⟩
      · simp (disch := decide) only [xi_ne1]
        refine ⟨Nat.zero_le _, ?_, fun j q hq => by cases hq⟩
        rw [show 6 * 0 + pr.1.length = pr.1.length by omega, xi_eq]; rfl
    · simp (disch := decide) only [xi_ne1]
      exact hR1.2.2.2.2.2 m b hm
    · obtain ⟨p1, p2, p3, p4, p5, p6⟩ := hps1 ps hp
      refine ⟨p1, by rw [xi_ne (Or.inr (by decide))]; simp (disch := decide) only [xi_ne1]; exact p2, p3, by simp (disch := decide) only [xi_ne1]; exact p4, fun c cl hc => ?_, fun m b hm => by simp (disch := decide) only [xi_ne1]; exact p6 m b hm⟩
      have hc' := (List.getElem?_eq_some_iff.mp hc).1
      simp (disch := decide) only [xi_ne1]
      rw [xi_ne (Or.inr (by omega))]
      exact p5 c cl hc
  · rw [if_neg (show ¬ ¬ nI pr.1.length = 6 from fun e => e (by rw [show pr.1.length = 6 by omega]; rfl)), if_neg h]
    unfold g_R_add_17
    rw [s_code hA, if_neg (by decide)]
    exact ⟨_, _, rfl, xi_eq _ _ _ _, Upd.rf.pi (by decide) (by decide)⟩
theorem i0 (c : Nat) : (120 * 0) + (20 * nI c) = nI (20 * c) := by
  have h := i120 0 c
  rw [show nI 0 = 0 from rfl] at h
  rw [h]; congr 1; omega
theorem s_R_put (hA : RefAt M) (hR : RepR M 0 pr) (hc0 : xi M 268 0 = 0) {c : Nat} (hcl : pr.1[c]? = some cl) (hn : cl.length < 20) (k x y : Int32) :
    ∃ N, (cI (g_R_base 0 (nI c) M) fun t4 M3 => gR M3 27 268 3 fun t5 => aI M3 t5 (nI c) fun t6 => gR M3 27 268 4 fun t7 => sI M3 t7 (t4 + t6) k fun M8 => gR M8 27 268 5 fun t9 => sI M8 t9 (t4 + t6) x fun M10 => gR M10 27 268 6 fun t11 => g_R_constant_185 268 (nI c) t11 (t4 + t6) y M10) = rI (nI cl.length) N ∧
      xi N 268 0 = 0 ∧ RepR N 0 (pr.1.set c (cl ++ [(k, x, y)]), pr.2) ∧ (∀ ps, RepR M 1 ps → RepR N 1 ps) ∧ Upd 268 282 M N := by
  have hz := hA.1
  have h6 := hR.1
  have hc : c < pr.1.length := (List.getElem?_eq_some_iff.mp hcl).1
  obtain ⟨g1, g2, g3⟩ := hR.2.2.2.2.1 c cl hcl
  rw [show 6 * 0 + c = c by omega] at g2
  have hA1 : RefAt (xpi M 272 (20 * c + cl.length) k) := hA
  have hA2 : RefAt (xpi (xpi M 272 (20 * c + cl.length) k) 273 (20 * c + cl.length) x) := hA
  have hA3 : RefAt (xpi (xpi (xpi M 272 (20 * c + cl.length) k) 273 (20 * c + cl.length) x) 274 (20 * c + cl.length) y) := hA
  have hA4 : RefAt (xpi (xpi (xpi (xpi M 272 (20 * c + cl.length) k) 273 (20 * c + cl.length) x) 274 (20 * c + cl.length) y) 271 c (nI (cl.length + 1))) := hA
  have hz1 := hA1.1
  have hz2 := hA2.1
  have hz3 := hA3.1
  have hz4 := hA4.1
  have e3 : xi (xpi (xpi (xpi M 272 (20 * c + cl.length) k) 273 (20 * c + cl.length) x) 274 (20 * c + cl.length) y) 271 c = nI cl.length := by simp (disch := decide) only [xi_ne1]; exact g2
  refine ⟨xpi (xpi (xpi (xpi M 272 (20 * c + cl.length) k) 273 (20 * c + cl.length) x) 274 (20 * c + cl.length) y) 271 c (nI (cl.length + 1)), ?_, ?_, ⟨by simpa using h6, ?_, hR.2.2.1, ?_, fun d dl hd => ?_, fun m b hm => ?_⟩, fun ps hp => ?_, (((Upd.rf.pi (by decide) (by decide)).pi (by decide) (by decide)).pi (by decide) (by decide)).pi (by decide) (by decide)⟩
  · unfold g_R_base g_R_constant_185
    rw [cI_e, i0, gR_e (by omega) hA.2.1 (r3 hA).1, aI_e (by omega) (r3 hA).2 (by omega) (by decide), g2, gR_e (by omega) hA.2.1 (r4 hA).1, nI_add, sI_e (by omega) (r4 hA).2 (by omega) (by decide), gR_e (by omega) hA1.2.1 (r5 hA1).1, sI_e (by omega) (r5 hA1).2 (by omega) (by decide),
      gR_e (by omega) hA2.2.1 (r6 hA2).1, sI_e (by omega) (r6 hA2).2 (by omega) (by decide), gR_e (by omega) hA3.2.1 (r3 hA3).1, aI_e (by omega) (r3 hA3).2 (by omega) (by decide), e3, nI_1, sI_e (by omega) (r3 hA3).2 (by omega) (by decide), gR_e (by omega) hA4.2.1 (r3 hA4).1, aI_e (by omega) (r3 hA4).2 (by omega) (by decide), xi_eq, nI_pred]
  · simp (disch := decide) only [xi_ne1]; exact hc0
  · simp (disch := decide) only [xi_ne1]; simpa using hR.2.1
  · simp (disch := decide) only [xi_ne1]; exact hR.2.2.2.1
  · rcases setC hd with ⟨hne, h⟩ | ⟨rfl, rfl, -⟩
    · have hd' := (List.getElem?_eq_some_iff.mp h).1
      obtain ⟨f1, f2, f3⟩ := hR.2.2.2.2.1 d dl h
      simp (disch := decide) only [xi_ne1]
      refine ⟨f1, by rw [xi_ne (Or.inr (by omega))]; exact f2, fun j q hq => ?_⟩
      have hj := (List.getElem?_eq_some_iff.mp hq).1
      simp (disch := omega) only [xi_no]
      exact f3 j q hq
    · simp (disch := decide) only [xi_ne1]
      refine ⟨by simp; omega, by rw [show 6 * 0 + d = d by omega, xi_eq]; simp, fun j q hq => ?_⟩
      rcases snocC hq with ⟨hlt, h⟩ | ⟨rfl, rfl⟩
      · simp (disch := omega) only [xi_no]
        exact g3 j q h
      · rw [show 120 * 0 + 20 * d + cl.length = 20 * d + cl.length by omega, xi_eq, xi_eq, xi_eq]
        exact ⟨rfl, rfl, rfl⟩
  · simp (disch := decide) only [xi_ne1]; exact hR.2.2.2.2.2 m b hm
  · obtain ⟨p1, p2, p3, p4, p5, p6⟩ := hp
    refine ⟨p1, by simp (disch := decide) only [xi_ne1]; exact p2, p3, by simp (disch := decide) only [xi_ne1]; exact p4, fun d dl hd => ?_, fun m b hm => by simp (disch := decide) only [xi_ne1]; exact p6 m b hm⟩
    have hd' := (List.getElem?_eq_some_iff.mp hd).1
    obtain ⟨f1, f2, f3⟩ := p5 d dl hd
    simp (disch := decide) only [xi_ne1]
    refine ⟨f1, by rw [xi_ne (Or.inr (by omega))]; exact f2, fun j q hq => ?_⟩
    have hj := (List.getElem?_eq_some_iff.mp hq).1
    simp (disch := omega) only [xi_no]
    exact f3 j q hq
theorem le99 (a : Int32) : a ≤ 99 ↔ ¬ 100 ≤ a := by
  rw [Int32.le_iff_toInt_le, Int32.le_iff_toInt_le, show (99 : Int32).toInt = 99 by decide, show (100 : Int32).toInt = 100 by decide]
  omega
theorem s_R_constant (hA : RefAt M) (hR : RepR M 0 pr) (o k a b : Int32) : OkR M (g_R_constant 268 o k a b M) ec3 (constV pr o k a b) := by
  have hz := hA.1
  have h6 := hR.1
  unfold g_R_constant constV
  rw [rv_e (by omega) hA.2.1, show (0 : Int32) = nI 0 from rfl, s_R_noClass hA (by decide) hR, cI_e]
  rcases lk_cases pr.1 o (by omega) with ⟨h, hx⟩ | ⟨c, cl, rfl, hc, hcl, h⟩
  · rw [h, if_neg (show ¬ bI (!(none : Option (List CT)).isSome) = nI 0 by decide)]
    unfold g_R_constant_15
    rw [s_code hA, if_neg (by decide)]
    exact ⟨_, _, rfl, xi_eq _ _ _ _, Upd.rf.pi (by decide) (by decide)⟩
  · rw [h, if_pos (show bI (!(some cl).isSome) = nI 0 from rfl)]
    have hlen := (hR.2.2.2.2.1 c cl hcl).1
    unfold g_R_constant_15
    obtain ⟨M1, hM1, hU1, hA1, hR1, hc1, hps1⟩ := s_code0 hA hR
    rw [show nI 0 = (0 : Int32) from rfl, s_code hA, if_pos (show (0 : Int32) ≤ 0 by decide), hM1]
    have hz1 := hA1.1
    have hU1' : Upd 268 269 M M1 := hM1 ▸ Upd.rf.pi (by decide) (by decide)
    simp only
    have h126 : ∀ v : Int32, ¬ v ≤ 0 → g_R_constant_126 268 (nI c) k a b 268 v M1 = rI 0 (xpi M1 268 0 v) := by
      intro v hv
      unfold g_R_constant_126
      rw [s_code hA1, if_neg hv]
    have hbad : OkR M (g_R_constant_97 268 (nI c) k a b M1) ec3 (.inr 2) := by
      unfold g_R_constant_97 g_R_constant_98
      rw [if_neg (fun h => h rfl), h126 2 (by decide)]
      exact ⟨_, _, rfl, xi_eq _ _ _ _, hU1'.pi (by decide) (by decide)⟩
    have hgood : OkR M (g_R_constant_93 268 (nI c) k a b M1) ec3 (if cl.length < 20 then .inl (nI cl.length, (pr.1.set c (cl ++ [(k, a, if k < 3 then 0 else b)]), pr.2)) else .inr 0) := by
      unfold g_R_constant_93 g_R_constant_98
      have g2 := (hR1.2.2.2.2.1 c cl hcl).2.1
      rw [show 6 * 0 + c = c by omega] at g2
      rw [if_pos (by decide), gR_e (by omega) hA1.2.1 (r3 hA1).1, aI_e (by omega) (r3 hA1).2 (by omega) (by decide), g2]
      by_cases hn : cl.length < 20
      · rw [if_pos (show ¬ nI cl.length = 20 from fun e => by have := (nI_eq (b := 20) (by omega) (by decide)).mp e; omega), if_pos hn]
        unfold g_R_constant_126
        obtain ⟨M2, hM2, hU2, hA2, hR2, hc2, hps2⟩ := s_code0 hA1 hR1
        rw [s_code hA1, if_pos (show (0 : Int32) ≤ 0 by decide), hM2]
        obtain ⟨N, n1, n2, n3, n4, n5⟩ := s_R_put hA2 hR2 hc2 hcl hn k a (if k < 3 then 0 else b)
        refine ⟨N, ?_, n2, n3, fun ps hp => n4 ps (hps2 ps (hps1 ps hp)), (hU1.tr hU2).tr n5⟩
        rw [← n1]
        by_cases h3 : k < 3
        · simp only [h3, if_true]
        · simp only [h3, if_false]
      · rw [if_neg (show ¬ ¬ nI cl.length = 20 from fun e => e (by rw [show cl.length = 20 by omega]; rfl)), if_neg hn, h126 3 (by decide)]
        exact ⟨_, _, rfl, xi_eq _ _ _ _, hU1'.pi (by decide) (by decide)⟩
    have hset : (nI c).toNatClampNeg = c := nI_clamp (by omega)
    have hok : allowK pr cl k a b = true → OkR M (g_R_constant_93 268 (nI c) k a b M1) ec3 (if allowK pr cl k a b = true then (if cl.length < 20 then .inl (nI cl.length, (pr.1.set (nI c).toNatClampNeg (cl ++ [(k, a, if k = 3 ∨ k = 4 then b else 0)]), pr.2)) else .inr 0) else .inr 2) := by
      intro ha
      rw [if_pos ha, hset]
      have : (if k < 3 then 0 else b) = (if k = 3 ∨ k = 4 then b else 0) := by
        unfold allowK at ha
        by_cases k0 : k = 0
        · subst k0; rw [if_pos (by decide), if_neg (by decide)]
        · rw [if_neg k0] at ha
          by_cases k1 : k = 1
          · subst k1; rw [if_pos (by decide), if_neg (by decide)]
          · rw [if_neg k1] at ha
            by_cases k2 : k = 2
            · subst k2; rw [if_pos (by decide), if_neg (by decide)]
            · rw [if_neg k2] at ha
              by_cases k34 : k = 3 ∨ k = 4
              · rw [if_pos k34, if_neg (by rcases k34 with h | h <;> (rw [h]; decide))]
              · rw [if_neg k34] at ha; cases ha
      rw [← this]; exact hgood
    have hno : allowK pr cl k a b = false → OkR M (g_R_constant_97 268 (nI c) k a b M1) ec3 (if allowK pr cl k a b = true then (if cl.length < 20 then .inl (nI cl.length, (pr.1.set (nI c).toNatClampNeg (cl ++ [(k, a, if k = 3 ∨ k = 4 then b else 0)]), pr.2)) else .inr 0) else .inr 2) := by
      intro ha
      rw [if_neg (by rw [ha]; decide)]; exact hbad
    have h46 : k = 1 → g_R_constant_46 268 (nI c) k a b M1 = g_R_constant_97 268 (nI c) k a b M1 := by
      intro e; subst e
      unfold g_R_constant_46 g_R_constant_60
      rw [if_pos (by decide), if_neg (by decide), if_pos (by decide)]
    by_cases k0 : k = 0
    · rw [if_pos k0]; exact hok (by unfold allowK; rw [if_pos k0])
    rw [if_neg k0]
    by_cases k1 : k = 1
    · have hak : allowK pr cl k a b = inV a 100 := by unfold allowK; rw [if_neg k0, if_pos k1]
      rw [if_neg (fun h => h k1)]
      by_cases a1 : a < 0
      · rw [if_pos a1, h46 k1]; exact hno (by rw [hak]; simp [inV, a1])
      rw [if_neg a1]
      by_cases a2 : a ≤ 99
      · rw [if_pos a2]; exact hok (by rw [hak]; simp [inV, a1, (le99 a).mp a2])
      · rw [if_neg a2, h46 k1]; exact hno (by rw [hak]; simp [inV, Classical.not_not.mp (fun h => a2 ((le99 a).mpr h))])
    rw [if_pos k1]
    unfold g_R_constant_46
    by_cases k2 : k = 2
    · have hak : allowK pr cl k a b = (lk pr.1 a).isSome := by unfold allowK; rw [if_neg k0, if_neg k1, if_pos k2]
      rw [if_neg (fun h => h k2), rv_e (by omega) hA1.2.1, show (0 : Int32) = nI 0 from rfl, s_R_noClass hA1 (by decide) hR1, cI_e]
      cases hs : (lk pr.1 a).isSome with
      | true => rw [if_pos (show bI (!true) = nI 0 from rfl)]; exact hok (by rw [hak, hs])
      | false =>
        rw [if_neg (show ¬ bI (!false) = nI 0 by decide)]
        unfold g_R_constant_60
        subst k2
        rw [if_neg (by decide), if_pos (by decide)]
        exact hno (by rw [hak, hs])
    rw [if_pos k2]
    unfold g_R_constant_60
    by_cases k34 : k = 3 ∨ k = 4
    · have hak : allowK pr cl k a b = (holdsV cl a 2 && holdsV cl b 1) := by unfold allowK; rw [if_neg k0, if_neg k1, if_neg k2, if_pos k34]
      have h70 : OkR M (g_R_constant_70 268 (nI c) k a b M1) ec3 (if allowK pr cl k a b = true then (if cl.length < 20 then .inl (nI cl.length, (pr.1.set (nI c).toNatClampNeg (cl ++ [(k, a, if k = 3 ∨ k = 4 then b else 0)]), pr.2)) else .inr 0) else .inr 2) := by
        unfold g_R_constant_70
        rw [rv_e (by omega) hA1.2.1, show (0 : Int32) = nI 0 from rfl, s_R_has hA1 (by decide) hR1 hcl, cI_e]
        cases h1 : holdsV cl a 2 with
        | false => rw [if_pos (show bI false = nI 0 from rfl)]; exact hno (by rw [hak, h1]; rfl)
        | true =>
          rw [if_neg (show ¬ bI true = nI 0 by decide), rv_e (by omega) hA1.2.1, s_R_has hA1 (by decide) hR1 hcl, cI_e]
          cases h2 : holdsV cl b 1 with
          | false => rw [if_pos (show bI false = nI 0 from rfl)]; exact hno (by rw [hak, h1, h2]; rfl)
          | true => rw [if_neg (show ¬ bI true = nI 0 by decide)]; exact hok (by rw [hak, h1, h2]; rfl)
      by_cases k3 : k = 3
      · rw [if_pos k3]; exact h70
      · rw [if_neg k3, if_neg (fun h => h (k34.resolve_left k3))]; exact h70
    · rw [if_neg (fun h => k34 (Or.inl h)), if_pos (fun h => k34 (Or.inr h))]
      exact hno (by unfold allowK; rw [if_neg k0, if_neg k1, if_neg k2, if_neg k34])
end PRO
