/-! the reference's other building calls -/
section PRP
variable {M : XM} {cl : List CT} {b : MB} {pr : PR}
theorem sZ_0 {a n i : Nat} {F : XM → XP} (h1 : a < xz M) (h2 : xt M a = (1, n)) (hi : i < n) (hn : n < 2 ^ 31) : sZ M a (nI i) 0 F = F (xpi M a i 0) := sZ_e h1 h2 hi hn (Or.inl rfl)
theorem s_R_putM (hA : RefAt M) (hR : RepR M 0 pr) (hc0 : xi M 268 0 = 0) (hn : pr.2.length < 30) (ow nm ar : Int32) :
    ∃ N, (gR M 27 268 2 fun t3 => aI M t3 0 fun t4 => gR M 27 268 7 fun t5 => sI M t5 t4 ow fun M6 => gR M6 27 268 8 fun t7 => sI M6 t7 t4 nm fun M8 => gR M8 27 268 9 fun t9 => sI M8 t9 t4 ar fun M10 => gR M10 27 268 10 fun t11 => sI M10 t11 t4 0 fun M12 => gR M12 27 268 11 fun t13 => sZ M12 t13 t4 0 fun M14 =>
      gR M14 27 268 2 fun t15 => aI M14 t15 0 fun t16 => sI M14 t15 0 (t16 + 1) fun M17 => some (.inl (some (.int t4)), M17)) = rI (nI pr.2.length) N ∧
      xi N 268 0 = 0 ∧ RepR N 0 (pr.1, pr.2 ++ [(ow, nm, ar, 0, [])]) ∧ (∀ ps, RepR M 1 ps → RepR N 1 ps) ∧ Upd 268 282 M N := by
  have hz := hA.1
  have hA1 : RefAt (xpi M 275 pr.2.length ow) := hA
  have hA2 : RefAt (xpi (xpi M 275 pr.2.length ow) 276 pr.2.length nm) := hA
  have hA3 : RefAt (xpi (xpi (xpi M 275 pr.2.length ow) 276 pr.2.length nm) 277 pr.2.length ar) := hA
  have hA4 : RefAt (xpi (xpi (xpi (xpi M 275 pr.2.length ow) 276 pr.2.length nm) 277 pr.2.length ar) 278 pr.2.length 0) := hA
  have hA5 : RefAt (xpi (xpi (xpi (xpi (xpi M 275 pr.2.length ow) 276 pr.2.length nm) 277 pr.2.length ar) 278 pr.2.length 0) 279 pr.2.length 0) := hA
  have hz1 := hA1.1
  have hz2 := hA2.1
  have hz3 := hA3.1
  have hz4 := hA4.1
  have hz5 := hA5.1
  have e5 : xi (xpi (xpi (xpi (xpi (xpi M 275 pr.2.length ow) 276 pr.2.length nm) 277 pr.2.length ar) 278 pr.2.length 0) 279 pr.2.length 0) 270 0 = nI pr.2.length := by simp (disch := decide) only [xi_ne1]; exact hR.2.2.2.1
  refine ⟨xpi (xpi (xpi (xpi (xpi (xpi M 275 pr.2.length ow) 276 pr.2.length nm) 277 pr.2.length ar) 278 pr.2.length 0) 279 pr.2.length 0) 270 0 (nI (pr.2.length + 1)), ?_, ?_, ⟨hR.1, ?_, by simp; omega, by rw [xi_eq]; simp, fun d dl hd => ?_, fun m b hm => ?_⟩, fun ps hp => ?_, (((((Upd.rf.pi (by decide) (by decide)).pi (by decide) (by decide)).pi (by decide) (by decide)).pi (by decide) (by decide)).pi (by decide) (by decide)).pi (by decide) (by decide)⟩
  · rw [gR_e (by omega) hA.2.1 (r2 hA).1, aI_0 (by omega) (r2 hA).2 (by decide) (by decide), hR.2.2.2.1, gR_e (by omega) hA.2.1 (r7 hA).1, sI_e (by omega) (r7 hA).2 (by omega) (by decide), gR_e (by omega) hA1.2.1 (r8 hA1).1, sI_e (by omega) (r8 hA1).2 (by omega) (by decide), gR_e (by omega) hA2.2.1 (r9 hA2).1, sI_e (by omega) (r9 hA2).2 (by omega) (by decide),
      gR_e (by omega) hA3.2.1 (r10 hA3).1, sI_e (by omega) (r10 hA3).2 (by omega) (by decide), gR_e (by omega) hA4.2.1 (r11 hA4).1, sZ_0 (by omega) (r11 hA4).2 (by omega) (by decide), gR_e (by omega) hA5.2.1 (r2 hA5).1, aI_0 (by omega) (r2 hA5).2 (by decide) (by decide), e5, nI_1, sI_0 (by omega) (r2 hA5).2 (by decide) (by decide)]
  · simp (disch := decide) only [xi_ne1]; exact hc0
  · simp (disch := decide) only [xi_ne1]; exact hR.2.1
  · simp (disch := decide) only [xi_ne1]; exact hR.2.2.2.2.1 d dl hd
  · rcases snocC hm with ⟨hlt, h⟩ | ⟨rfl, rfl⟩
    · simp (disch := omega) only [xi_no]
      exact hR.2.2.2.2.2 m b h
    · rw [show 30 * 0 + pr.2.length = pr.2.length by omega]
      simp (disch := decide) only [xi_ne1, xi_eq]
      refine ⟨by trivial, by trivial, by trivial, by trivial, by rfl, Nat.zero_le _, fun k i hk => by cases hk⟩
  · obtain ⟨p1, p2, p3, p4, p5, p6⟩ := hp
    refine ⟨p1, by simp (disch := decide) only [xi_ne1]; exact p2, p3, by rw [xi_ne (Or.inr (by decide))]; simp (disch := decide) only [xi_ne1]; exact p4, fun d dl hd => by simp (disch := decide) only [xi_ne1]; exact p5 d dl hd, fun m b hm => ?_⟩
    have hm' := (List.getElem?_eq_some_iff.mp hm).1
    simp (disch := omega) only [xi_no]
    exact p6 m b hm
theorem s_R_member (hA : RefAt M) (hR : RepR M 0 pr) (hW : WF pr) (o nm ar : Int32) : OkR M (g_R_member 268 o nm ar M) ec3 (membV pr o nm ar) := by
  have hz := hA.1
  have h6 := hR.1
  have h30 := hR.2.2.1
  unfold g_R_member membV
  rw [rv_e (by omega) hA.2.1, show (0 : Int32) = nI 0 from rfl, s_R_noClass hA (by decide) hR, cI_e]
  rcases lk_cases pr.1 o (by omega) with ⟨h, hx⟩ | ⟨c, cl, rfl, hc, hcl, h⟩
  · rw [h, if_neg (show ¬ bI (!(none : Option (List CT)).isSome) = nI 0 by decide)]
    unfold g_R_member_15
    rw [s_code hA, if_neg (by decide)]
    exact ⟨_, _, rfl, xi_eq _ _ _ _, Upd.rf.pi (by decide) (by decide)⟩
  · rw [h, if_pos (show bI (!(some cl).isSome) = nI 0 from rfl)]
    obtain ⟨hlen, -, g3⟩ := hR.2.2.2.2.1 c cl hcl
    unfold g_R_member_15
    obtain ⟨M1, hM1, hU1, hA1, hR1, hc1, hps1⟩ := s_code0 hA hR
    have hz1 := hA1.1
    have hU1' : Upd 268 269 M M1 := hM1 ▸ Upd.rf.pi (by decide) (by decide)
    rw [show nI 0 = (0 : Int32) from rfl, s_code hA, if_pos (show (0 : Int32) ≤ 0 by decide), hM1, rv_e (by omega) hA1.2.1, show g_R_has 268 0 (nI c) nm 1 M1 = rB (holdsV cl nm 1) M1 from s_R_has (p := 0) hA1 (by decide) hR1 hcl nm 1, cI_e]
    simp only
    have hbad : OkR M (uI M1 27 268 0 2 fun M6 => some (.inl (some (.int 0)), M6)) ec3 (.inr 2) := by
      rw [uI_e (by omega) hA1.2.1]
      exact ⟨_, _, rfl, xi_eq _ _ _ _, hU1'.pi (by decide) (by decide)⟩
    unfold allowM
    cases h1 : holdsV cl nm 1 with
    | false => rw [if_pos (show bI false = 0 from rfl), if_neg (by simp)]; exact hbad
    | true =>
      have hq : ∃ (j : Nat) (q : CT), nm = nI j ∧ cl[j]? = some q ∧ j < cl.length ∧ firstV cl nm = q.2.1 := by
        unfold holdsV at h1
        rcases lk_cases cl nm (by omega) with ⟨h, -⟩ | ⟨j, q, rfl, hj, hq, h⟩
        · rw [h] at h1; cases h1
        · exact ⟨j, q, rfl, hq, hj, by unfold firstV; rw [h]⟩
      obtain ⟨j, q, rfl, hq, hj, hf⟩ := hq
      rw [if_neg (by decide)]
      by_cases a1 : ar < -1
      · rw [if_pos a1, if_neg (by simp [a1])]; exact hbad
      rw [if_neg a1]
      by_cases a2 : ar ≤ 2
      · rw [if_neg (Int32.not_lt.mpr a2)]
        have h60 : ∀ fl : Bool, OkR M (g_R_member_60 268 (nI c) (nI j) ar 268 0 (nI c) (bI fl) M1) ec3 (if findV pr (nI c) q.2.1 fl = -1 then (if pr.2.length < 30 then .inl (nI pr.2.length, (pr.1, pr.2 ++ [(nI c, nI j, ar, 0, [])])) else .inr 0) else .inr 2) := by
          intro fl
          unfold g_R_member_60
          rw [gR_e (by omega) hA1.2.1 (r5 hA1).1]
          unfold g_R_base
          have e2 := ((hR1.2.2.2.2.1 c cl hcl).2.2 j q hq).2.1
          rw [show 120 * 0 + 20 * c + j = 20 * c + j by omega] at e2
          rw [cI_e, i0, nI_add, aI_e (by omega) (r5 hA1).2 (by omega) (by decide), e2, rv_e (by omega) hA1.2.1, show g_R_find 268 0 (nI c) (bI fl) q.2.1 M1 = rI (findV pr (nI c) q.2.1 fl) M1 from s_R_find (p := 0) hA1 (by decide) hR1 hW _ _ _, cI_e]
          rcases find_ge pr h30 (nI c) q.2.1 fl with hf' | ⟨i, hi, hf'⟩
          · rw [hf', if_pos (by decide), if_pos rfl, gR_e (by omega) hA1.2.1 (r2 hA1).1, aI_0 (by omega) (r2 hA1).2 (by decide) (by decide), hR1.2.2.2.1]
            by_cases hn : pr.2.length < 30
            · rw [if_pos (show ¬ nI pr.2.length = 30 from fun e => by have := (nI_eq (b := 30) (by omega) (by decide)).mp e; omega), if_pos hn]
              unfold g_R_member_102
              obtain ⟨M2, hM2, hU2, hA2, hR2, hc2, hps2⟩ := s_code0 hA1 hR1
              rw [s_code hA1, if_pos (show (0 : Int32) ≤ 0 by decide), hM2]
              obtain ⟨N, n1, n2, n3, n4, n5⟩ := s_R_putM hA2 hR2 hc2 hn (nI c) (nI j) ar
              exact ⟨N, n1, n2, n3, fun ps hp => n4 ps (hps2 ps (hps1 ps hp)), (hU1.tr hU2).tr n5⟩
            · rw [if_neg (show ¬ ¬ nI pr.2.length = 30 from fun e => e (by rw [show pr.2.length = 30 by omega]; rfl)), if_neg hn]
              unfold g_R_member_102
              rw [s_code hA1, if_neg (by decide)]
              exact ⟨_, _, rfl, xi_eq _ _ _ _, hU1'.pi (by decide) (by decide)⟩
          · have hne : ¬ nI i = -1 := fun e => nI_pos (show i < 2 ^ 31 by omega) (by rw [e]; decide)
            rw [hf', if_neg (nI_pos (by omega)), if_neg hne, uI_e (by omega) hA1.2.1]
            exact ⟨_, _, rfl, xi_eq _ _ _ _, hU1'.pi (by decide) (by decide)⟩
        have harith : 0 ≤ ar ↔ ¬ ar = -1 := by
          rw [Int32.le_iff_toInt_le, ← Int32.toInt_inj, show (0 : Int32).toInt = 0 by decide, show (-1 : Int32).toInt = -1 by decide]
          have h2 : ¬ ar.toInt < -1 := fun h => a1 (Int32.lt_iff_toInt_lt.mpr (by rw [show (-1 : Int32).toInt = -1 by decide]; exact h))
          omega
        have key : ∀ fl : Bool, decide (ar = -1) = fl → (if (true && (!(decide (ar < -1)) && (decide (ar ≤ 2) && decide (findV pr (nI c) (firstV cl (nI j)) (decide (ar = -1)) = -1)))) = true then (if pr.2.length < 30 then (.inl (nI pr.2.length, (pr.1, pr.2 ++ [(nI c, nI j, ar, 0, [])])) : OR) else .inr 0) else .inr 2) = (if findV pr (nI c) q.2.1 fl = -1 then (if pr.2.length < 30 then .inl (nI pr.2.length, (pr.1, pr.2 ++ [(nI c, nI j, ar, 0, [])])) else .inr 0) else .inr 2) := by
          intro fl hfl
          rw [hfl, hf]
          by_cases hff : findV pr (nI c) q.2.1 fl = -1
          · rw [if_pos hff, if_pos (by simp [a1, a2, hff])]
          · rw [if_neg hff, if_neg (by simp [hff])]
        by_cases a3 : ar = -1
        · rw [if_neg (fun h => harith.mp h a3), key true (by simp [a3])]
          exact h60 true
        · rw [if_pos (harith.mpr a3), key false (by simp [a3])]
          exact h60 false
      · rw [if_pos (Int32.not_le.mp a2), if_neg (by simp [a2])]; exact hbad
theorem i20 (m k : Nat) : (20 * nI m) + nI k = nI (20 * m + k) := by rw [show (20 : Int32) = nI 20 from rfl, pk_mul, nI_add]
theorem s_R_putI (hA : RefAt M) (hR : RepR M 0 pr) (hc0 : xi M 268 0 = 0) {m : Nat} (hm : pr.2[m]? = some b) (hn : b.2.2.2.2.length < 20) (w x : Int32) :
    ∃ N, (gR M 27 268 12 fun t3 => gR M 27 268 10 fun t4 => aI M t4 (nI m) fun t5 => sI M t3 ((20 * nI m) + t5) w fun M6 => gR M6 27 268 13 fun t7 => gR M6 27 268 10 fun t8 => aI M6 t8 (nI m) fun t9 => sI M6 t7 ((20 * nI m) + t9) x fun M10 => gR M10 27 268 10 fun t11 => aI M10 t11 (nI m) fun t12 => sI M10 t11 (nI m) (t12 + 1) fun M13 =>
      gR M13 27 268 10 fun t14 => aI M13 t14 (nI m) fun t15 => some (.inl (some (.int (t15 - 1))), M13)) = rI (nI b.2.2.2.2.length) N ∧
      xi N 268 0 = 0 ∧ RepR N 0 (pr.1, pr.2.set m (b.1, b.2.1, b.2.2.1, b.2.2.2.1, b.2.2.2.2 ++ [(w, x)])) ∧ (∀ ps, RepR M 1 ps → RepR N 1 ps) ∧ Upd 268 282 M N := by
  have hz := hA.1
  have h30 := hR.2.2.1
  have hmlt : m < pr.2.length := (List.getElem?_eq_some_iff.mp hm).1
  obtain ⟨b1, b2, b3, b4, code⟩ := b
  obtain ⟨g1, g2, g3, g4, g5, g6, g7⟩ := hR.2.2.2.2.2 m _ hm
  simp only at *
  rw [show 30 * 0 + m = m by omega] at g1 g2 g3 g4 g5
  have hA1 : RefAt (xpi M 280 (20 * m + code.length) w) := hA
  have hA2 : RefAt (xpi (xpi M 280 (20 * m + code.length) w) 281 (20 * m + code.length) x) := hA
  have hA3 : RefAt (xpi (xpi (xpi M 280 (20 * m + code.length) w) 281 (20 * m + code.length) x) 278 m (nI (code.length + 1))) := hA
  have hz1 := hA1.1
  have hz2 := hA2.1
  have hz3 := hA3.1
  have e1 : xi (xpi M 280 (20 * m + code.length) w) 278 m = nI code.length := by simp (disch := decide) only [xi_ne1]; exact g5
  have e2 : xi (xpi (xpi M 280 (20 * m + code.length) w) 281 (20 * m + code.length) x) 278 m = nI code.length := by simp (disch := decide) only [xi_ne1]; exact g5
  refine ⟨xpi (xpi (xpi M 280 (20 * m + code.length) w) 281 (20 * m + code.length) x) 278 m (nI (code.length + 1)), ?_, ?_, ⟨hR.1, ?_, by simpa using h30, ?_, fun d dl hd => ?_, fun n b hb => ?_⟩, fun ps hp => ?_, ((Upd.rf.pi (by decide) (by decide)).pi (by decide) (by decide)).pi (by decide) (by decide)⟩
  · rw [gR_e (by omega) hA.2.1 (r12 hA).1, gR_e (by omega) hA.2.1 (r10 hA).1, aI_e (by omega) (r10 hA).2 (by omega) (by decide), g5, i20, sI_e (by omega) (r12 hA).2 (by omega) (by decide), gR_e (by omega) hA1.2.1 (r13 hA1).1, gR_e (by omega) hA1.2.1 (r10 hA1).1, aI_e (by omega) (r10 hA1).2 (by omega) (by decide), e1, i20, sI_e (by omega) (r13 hA1).2 (by omega) (by decide),
      gR_e (by omega) hA2.2.1 (r10 hA2).1, aI_e (by omega) (r10 hA2).2 (by omega) (by decide), e2, nI_1, sI_e (by omega) (r10 hA2).2 (by omega) (by decide), gR_e (by omega) hA3.2.1 (r10 hA3).1, aI_e (by omega) (r10 hA3).2 (by omega) (by decide), xi_eq, nI_pred]
  · simp (disch := decide) only [xi_ne1]; exact hc0
  · simp (disch := decide) only [xi_ne1]; exact hR.2.1
  · simp (disch := decide) only [xi_ne1]; simpa using hR.2.2.2.1
  · simp (disch := decide) only [xi_ne1]; exact hR.2.2.2.2.1 d dl hd
  · rcases setC hb with ⟨hne, h⟩ | ⟨rfl, rfl, -⟩
    · have hn' := (List.getElem?_eq_some_iff.mp h).1
      obtain ⟨f1, f2, f3, f4, f5, f6, f7⟩ := hR.2.2.2.2.2 n b h
      simp (disch := decide) only [xi_ne1]
      refine ⟨f1, f2, f3, f4, by rw [xi_ne (Or.inr (by omega))]; exact f5, f6, fun k i hk => ?_⟩
      have hk' := (List.getElem?_eq_some_iff.mp hk).1
      simp (disch := omega) only [xi_no]
      exact f7 k i hk
    · rw [show 30 * 0 + n = n by omega]
      simp (disch := decide) only [xi_ne1]
      refine ⟨g1, g2, g3, g4, by rw [xi_eq]; simp, by simp; omega, fun k i hk => ?_⟩
      rcases snocC hk with ⟨hlt, h⟩ | ⟨rfl, rfl⟩
      · simp (disch := omega) only [xi_no]
        exact g7 k i h
      · rw [show 600 * 0 + 20 * n + code.length = 20 * n + code.length by omega, xi_eq, xi_eq]
        exact ⟨rfl, rfl⟩
  · obtain ⟨p1, p2, p3, p4, p5, p6⟩ := hp
    refine ⟨p1, by simp (disch := decide) only [xi_ne1]; exact p2, p3, by simp (disch := decide) only [xi_ne1]; exact p4, fun d dl hd => by simp (disch := decide) only [xi_ne1]; exact p5 d dl hd, fun n b hb => ?_⟩
    obtain ⟨f1, f2, f3, f4, f5, f6, f7⟩ := p6 n b hb
    simp (disch := decide) only [xi_ne1]
    refine ⟨f1, f2, f3, f4, by rw [xi_ne (Or.inr (by omega))]; exact f5, f6, fun k i hk => ?_⟩
    simp (disch := omega) only [xi_no]
    exact f7 k i hk
theorem s_R_code (hA : RefAt M) (hR : RepR M 0 pr) (hW : WF pr) (m w x : Int32) : OkR M (g_R_code 268 m w x M) ec3 (codeV pr m w x) := by
  have hz := hA.1
  have h30 := hR.2.2.1
  unfold g_R_code codeV
  rw [rv_e (by omega) hA.2.1, show g_R_noMethod 268 0 m M = rB (noMeth pr m) M from s_R_noMethod (p := 0) hA (by decide) hR hW m, cI_e]
  have hbad : ∀ (v : Int32) (e : Nat), ¬ v ≤ 0 → v = nI (ec3 e) → OkR M (g_R_code_44 268 m w x 268 v M) ec3 (.inr e) := by
    intro v e hv he
    unfold g_R_code_44
    rw [s_code hA, if_neg hv]
    exact ⟨_, _, rfl, (xi_eq _ _ _ _).trans he, Upd.rf.pi (by decide) (by decide)⟩
  cases hm : noMeth pr m with
  | true => rw [if_neg (by decide), if_pos rfl]; exact hbad 1 1 (by decide) rfl
  | false =>
    rw [if_pos (show bI false = 0 from rfl), if_neg (show ¬ (false = true) by decide)]
    rcases lk_cases pr.2 m (by omega) with ⟨h, hx⟩ | ⟨i, b, rfl, hi, hb, h⟩
    · unfold noMeth at hm; rw [h] at hm; cases hm
    · obtain ⟨m1, m2, m3, m4, m5, m6, m7⟩ := hR.2.2.2.2.2 i b hb
      rw [show 30 * 0 + i = i by omega] at m5
      rw [h]
      simp only
      by_cases w1 : w < 0
      · rw [if_pos w1, if_pos (Or.inl w1)]; exact hbad 2 2 (by decide) rfl
      rw [if_neg w1]
      by_cases w2 : w ≤ 12
      · rw [if_pos w2, if_neg (by simp [w1, w2]), gR_e (by omega) hA.2.1 (r10 hA).1, aI_e (by omega) (r10 hA).2 (by omega) (by decide), m5]
        by_cases hn : b.2.2.2.2.length < 20
        · rw [if_pos (show ¬ nI b.2.2.2.2.length = 20 from fun e => by have := (nI_eq (b := 20) (by omega) (by decide)).mp e; omega), if_pos hn, nI_clamp (by omega)]
          unfold g_R_code_44
          obtain ⟨M1, hM1, hU1, hA1, hR1, hc1, hps1⟩ := s_code0 hA hR
          rw [s_code hA, if_pos (show (0 : Int32) ≤ 0 by decide), hM1]
          obtain ⟨N, n1, n2, n3, n4, n5⟩ := s_R_putI hA1 hR1 hc1 hb hn w x
          exact ⟨N, n1, n2, n3, fun ps hp => n4 ps (hps1 ps hp), hU1.tr n5⟩
        · rw [if_neg (show ¬ ¬ nI b.2.2.2.2.length = 20 from fun e => e (by rw [show b.2.2.2.2.length = 20 by omega]; rfl)), if_neg hn]
          exact hbad 3 0 (by decide) rfl
      · rw [if_neg w2, if_pos (Or.inr w2)]; exact hbad 2 2 (by decide) rfl
theorem s_R_entry (hA : RefAt M) (hR : RepR M 0 pr) (hW : WF pr) (m is : Int32) (his : is = 0 ∨ is = 1) : match entrV pr m is with
    | some pr' => ∃ N, g_R_entry 268 m is M = rV N ∧ xi N 268 0 = 0 ∧ RepR N 0 pr' ∧ (∀ ps, RepR M 1 ps → RepR N 1 ps) ∧ Upd 268 282 M N
    | none => ∃ N, g_R_entry 268 m is M = rV N ∧ xi N 268 0 = 1 ∧ Upd 268 269 M N := by
  have hz := hA.1
  have h30 := hR.2.2.1
  have hg : g_R_entry 268 m is M = if bI (noMeth pr m) = 0 then g_R_entry_15 268 m is 268 0 M else g_R_entry_15 268 m is 268 1 M := by
    unfold g_R_entry
    rw [rv_e (by omega) hA.2.1, show g_R_noMethod 268 0 m M = rB (noMeth pr m) M from s_R_noMethod (p := 0) hA (by decide) hR hW m, cI_e]
  rw [hg]
  cases hm : noMeth pr m with
  | true =>
    have he : entrV pr m is = none := by unfold entrV; rw [if_pos hm]
    rw [he]
    simp only
    rw [if_neg (by decide)]
    unfold g_R_entry_15
    rw [s_code hA, if_pos (by decide)]
    exact ⟨_, rfl, xi_eq _ _ _ _, Upd.rf.pi (by decide) (by decide)⟩
  | false =>
    rcases lk_cases pr.2 m (by omega) with ⟨h, hx⟩ | ⟨i, b, rfl, hi, hb, h⟩
    · unfold noMeth at hm; rw [h] at hm; cases hm
    · have he : entrV pr (nI i) is = some (pr.1, pr.2.set i (b.1, b.2.1, b.2.2.1, is, b.2.2.2.2)) := by
        unfold entrV; rw [if_neg (by rw [hm]; decide), h]; simp only; rw [nI_clamp (by omega)]
      rw [he]
      simp only
      rw [if_pos (show bI false = 0 from rfl)]
      unfold g_R_entry_15
      obtain ⟨M1, hM1, hU1, hA1, hR1, hc1, hps1⟩ := s_code0 hA hR
      have hz1 := hA1.1
      rw [s_code hA, if_neg (fun h => h rfl), hM1, gR_e (by omega) hA1.2.1 (r11 hA1).1, sZ_e (by omega) (r11 hA1).2 (by omega) (by decide) his]
      refine ⟨_, rfl, ?_, ⟨hR1.1, ?_, by simpa using h30, ?_, fun d dl hd => ?_, fun n q hq => ?_⟩, fun ps hp => ?_, hU1.pi (by decide) (by decide)⟩
      · simp (disch := decide) only [xi_ne1]; exact hc1
      · simp (disch := decide) only [xi_ne1]; exact hR1.2.1
      · simp (disch := decide) only [xi_ne1]; simpa using hR1.2.2.2.1
      · simp (disch := decide) only [xi_ne1]; exact hR1.2.2.2.2.1 d dl hd
      · rcases setC hq with ⟨hne, h⟩ | ⟨rfl, rfl, -⟩
        · obtain ⟨f1, f2, f3, f4, f5, f6, f7⟩ := hR1.2.2.2.2.2 n q h
          simp (disch := decide) only [xi_ne1]
          exact ⟨f1, f2, f3, by rw [xi_ne (Or.inr (by omega))]; exact f4, f5, f6, f7⟩
        · obtain ⟨f1, f2, f3, f4, f5, f6, f7⟩ := hR1.2.2.2.2.2 n b hb
          simp (disch := decide) only [xi_ne1]
          exact ⟨f1, f2, f3, by rw [show 30 * 0 + n = n by omega, xi_eq], f5, f6, f7⟩
      · obtain ⟨p1, p2, p3, p4, p5, p6⟩ := hps1 ps hp
        refine ⟨p1, by simp (disch := decide) only [xi_ne1]; exact p2, p3, by simp (disch := decide) only [xi_ne1]; exact p4, fun d dl hd => by simp (disch := decide) only [xi_ne1]; exact p5 d dl hd, fun n q hq => ?_⟩
        obtain ⟨f1, f2, f3, f4, f5, f6, f7⟩ := p6 n q hq
        simp (disch := decide) only [xi_ne1]
        exact ⟨f1, f2, f3, by rw [xi_ne (Or.inr (by omega))]; exact f4, f5, f6, f7⟩
theorem s_R_clear (hA : RefAt M) : ∃ N, g_R_clear 268 M = rV N ∧ RepR N 0 ([], []) ∧ (∀ ps, RepR M 1 ps → RepR N 1 ps) ∧ Upd 268 282 M N := by
  have hz := hA.1
  have hA1 : RefAt (xpi M 268 0 0) := hA
  have hA2 : RefAt (xpi (xpi M 268 0 0) 269 0 0) := hA
  have hz1 := hA1.1
  have hz2 := hA2.1
  refine ⟨xpi (xpi (xpi M 268 0 0) 269 0 0) 270 0 0, ?_, ⟨Nat.zero_le _, ?_, Nat.zero_le _, xi_eq _ _ _ _, (fun c cl h => by cases h), (fun m b h => by cases h)⟩, fun ps hp => ?_, ((Upd.rf.pi (by decide) (by decide)).pi (by decide) (by decide)).pi (by decide) (by decide)⟩
  · unfold g_R_clear
    rw [uI_e (by omega) hA.2.1, gR_e (by omega) hA1.2.1 (r1 hA1).1, sI_0 (by omega) (r1 hA1).2 (by decide) (by decide), gR_e (by omega) hA2.2.1 (r2 hA2).1, sI_0 (by omega) (r2 hA2).2 (by decide) (by decide)]
  · simp (disch := decide) only [xi_ne1]; rw [xi_eq]; rfl
  · obtain ⟨p1, p2, p3, p4, p5, p6⟩ := hp
    refine ⟨p1, ?_, p3, ?_, fun d dl hd => by simp (disch := decide) only [xi_ne1]; exact p5 d dl hd, fun n q hq => by simp (disch := decide) only [xi_ne1]; exact p6 n q hq⟩
    · simp (disch := omega) only [xi_no]; exact p2
    · simp (disch := omega) only [xi_no]; exact p4
theorem s_R_fault (hA : RefAt M) (hR : RepR M 0 pr) (hW : WF pr) : g_R_fault 268 M = rI (faultV pr) (xpi M 268 0 0) := by
  have hz := hA.1
  have hA1 : RefAt (xpi M 268 0 0) := hA
  have hz1 := hA1.1
  unfold g_R_fault
  rw [uI_e (by omega) hA.2.1, rv_e (by omega) hA1.2.1, s_R_firstFault hA1 hR.code hW, cI_e]
theorem s_R_thrown (hA : RefAt M) : g_R_thrown 268 M = rI (xi M 268 0) M := by
  have hz := hA.1
  unfold g_R_thrown
  rw [gI_e (by omega) hA.2.1]
end PRP
