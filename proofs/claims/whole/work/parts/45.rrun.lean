/-! the reference's steps and runs -/
theorem RepR.sz {M : XM} {p : Nat} {pr : PR} (h : RepR M p pr) : Sz pr := by
  refine ⟨h.1, h.2.2.1, fun cl hc => ?_, fun b hb => ?_⟩
  · obtain ⟨i, hi⟩ := List.getElem?_of_mem hc
    exact (h.2.2.2.2.1 i cl hi).1
  · obtain ⟨i, hi⟩ := List.getElem?_of_mem hb
    exact (h.2.2.2.2.2 i b hi).2.2.2.2.2.1
section PRR
variable {M : XM} {p : Nat} {pr : PR} {vs : Nat → Int32} {r : Int32} {t : List FR} {fr : FR} {m n : Nat} {x y v : Int32} {st : List Int32} {cl : List CT} {b : MB} {i : IN}
theorem StR.goto (h : StR M (vs, (m, n, x, y, st) :: t, r)) (n' : Nat) : StR (xpi M 291 t.length (nI n')) (vs, (m, n', x, y, st) :: t, r) := by
  obtain ⟨h0, h1, h2, h3, ⟨⟨f1, f2, f3, f4, f5, f6, f7⟩, h4⟩, h5⟩ := h
  refine ⟨?_, fun k hk => ?_, h2, ?_, ⟨⟨?_, xi_eq _ _ _ _, ?_, ?_, ?_, f6, ?_⟩, h4.congr (fun a j ha1 ha2 hj => ?_) fun j hj => ?_⟩, fun e => by simp at e⟩
  · rw [xi_ne1 (by decide)]; exact h0
  · rw [xi_ne1 (by decide)]; exact h1 k hk
  · rw [xi_ne1 (by decide)]; exact h3
  · rw [xi_ne1 (by decide)]; exact f1
  · rw [xi_ne1 (by decide)]; exact f3
  · rw [xi_ne1 (by decide)]; exact f4
  · rw [xi_ne1 (by decide)]; exact f5
  · exact f7.congr fun j _ hj => by rw [xi_ne1 (by decide)]
  · rw [xi_no (by omega)]
  · rw [xi_ne1 (by decide)]
theorem s_R_inst (c : CtR M p pr) (hW : WF pr) (h : StR M (vs, (m, n, x, y, st) :: t, r)) (hm : pr.2[m]? = some b) (hcl : lk pr.1 b.1 = some cl) (hs : Snd pr cl b i) {F : XP} (hF : F =
    if i.1 = 0 then
    (gR M 27 268 5 fun t83 =>
    cI (g_R_base (nI p) b.1 M) fun t85 M84 =>
    aI M84 t83 (t85 + i.2) fun t86 =>
    rv M84 27 268 <|
    cV (g_R_push 268 t86 M84) fun M88 =>
    some (.inl none, M88))
    else
    if i.1 = 1 then
    (gR M 27 268 21 fun t76 =>
    rv M 27 268 <|
    cI (g_R_meant 268 (nI p) b.1 i.2 3 M) fun t79 M78 =>
    aI M78 t76 t79 fun t80 =>
    rv M78 27 268 <|
    cV (g_R_push 268 t80 M78) fun M82 =>
    some (.inl none, M82))
    else
    if i.1 = 2 then
    (rv M 27 268 <|
    cI (g_R_pop 268 M) fun t70 M69 =>
    gR M69 27 268 21 fun t71 =>
    rv M69 27 268 <|
    cI (g_R_meant 268 (nI p) b.1 i.2 3 M69) fun t74 M73 =>
    sI M73 t71 t74 t70 fun M75 =>
    some (.inl none, M75))
    else
    if i.1 = 3 then
    (rv M 27 268 <|
    cI (g_R_meant 268 (nI p) b.1 i.2 4 M) fun t65 M64 =>
    rv M64 27 268 <|
    cV (g_R_call 268 (nI p) t65 M64) fun M67 =>
    some (.inl none, M67))
    else
    if i.1 = 4 then
    (if ¬ i.2 = 0 then
    (gR M 27 268 26 fun t55 =>
    aI M t55 (nI t.length) fun t56 =>
    rv M 27 268 <|
    cV (g_R_push 268 t56 M) fun M58 =>
    some (.inl none, M58))
    else
    gR M 27 268 25 fun t59 =>
    aI M t59 (nI t.length) fun t60 =>
    rv M 27 268 <|
    cV (g_R_push 268 t60 M) fun M62 =>
    some (.inl none, M62))
    else
    if i.1 = 5 then
    (rv M 27 268 <|
    cV (g_R_arithmetic 268 i.1 M) fun M54 =>
    some (.inl none, M54))
    else
    if i.1 = 6 then
    (rv M 27 268 <|
    cV (g_R_arithmetic 268 i.1 M) fun M52 =>
    some (.inl none, M52))
    else
    if i.1 = 7 then
    (rv M 27 268 <|
    cV (g_R_arithmetic 268 i.1 M) fun M50 =>
    some (.inl none, M50))
    else
    if i.1 = 8 then
    (rv M 27 268 <|
    cV (g_R_arithmetic 268 i.1 M) fun M48 =>
    some (.inl none, M48))
    else
    if i.1 = 9 then
    (rv M 27 268 <|
    cI (g_R_pop 268 M) fun t41 M40 =>
    gR M40 27 268 24 fun t42 =>
    if ¬ t41 = 0 then
    (gR M40 27 268 24 fun t43 =>
    aI M40 t43 (nI t.length) fun t44 =>
    sI M40 t42 (nI t.length) t44 fun M45 =>
    some (.inl none, M45))
    else
    sI M40 t42 (nI t.length) i.2 fun M46 =>
    some (.inl none, M46))
    else
    if i.1 = 10 then
    (gR M 27 268 24 fun t37 =>
    sI M t37 (nI t.length) i.2 fun M38 =>
    some (.inl none, M38))
    else
    if i.1 = 11 then
    (rv M 27 268 <|
    cI (g_R_pop 268 M) fun t32 M31 =>
    uI M31 27 268 29 t32 fun M33 =>
    gI M33 27 268 0 fun t34 =>
    if ¬ t34 = 0 then
    (g_R_step_361 268 M33)
    else
    gI M33 27 268 22 fun t35 =>
    uI M33 27 268 22 (t35 - 1) fun M36 =>
    g_R_step_361 268 M36)
    else
    if i.1 = 12 then
    (rv M 27 268 <|
    cI (g_R_pop 268 M) fun t25 M24 =>
    gI M24 27 268 0 fun t26 =>
    if t26 ≤ 0 then
    (uI M24 27 268 0 4 fun M27 =>
    some (.inl none, M27))
    else
    gI M24 27 268 0 fun t28 =>
    uI M24 27 268 0 t28 fun M29 =>
    some (.inl none, M29))
    else
    rv M 27 268 <|
    cV (g_R_arithmetic 268 i.1 M) fun M22 =>
    some (.inl none, M22)) : OkT M F (instV pr cl vs r t (m, n, x, y, st) i) := by
  have hz := c.1.1
  have hp := c.2.2
  have h30 := c.2.1.2.2.1
  have h6 := c.2.1.1
  have ht := h.stk
  obtain ⟨d, e0, hd, hdl⟩ := lk_some (by omega) hcl
  obtain ⟨hl20, -, g3⟩ := c.2.1.2.2.2.2.1 d cl hdl
  have hb20 := c.2.1.sz.2.2.2 b (List.mem_of_getElem? hm)
  obtain ⟨i1, i2⟩ := i
  obtain ⟨w, hw, ew⟩ := hs.2.2.2.2
  simp only at ew hF
  subst ew
  subst hF
  rcases (show w = 0 ∨ w = 1 ∨ w = 2 ∨ w = 3 ∨ w = 4 ∨ (w = 5 ∨ w = 6 ∨ w = 7 ∨ w = 8) ∨ w = 9 ∨ w = 10 ∨ w = 11 ∨ w = 12 by omega) with rfl | rfl | rfl | rfl | rfl | hw4 | rfl | rfl | rfl | rfl
  · obtain ⟨j, q, e1, e2⟩ := hs.1 rfl
    simp only at e1
    subst e1
    have hj : j < cl.length := (List.getElem?_eq_some_iff.mp e2).1
    unfold instV
    rw [if_pos (show nI 0 = 0 from rfl), if_pos (show nI 0 = 0 from rfl), gR_e (by omega) c.1.2.1 (r5 c.1).1, e0, s_R_base, cI_e, nI_add, aI_e (by omega) (r5 c.1).2 (by omega) (by decide), (g3 j q e2).2.1, rv27 c.1]
    rw [show firstV cl (nI j) = q.2.1 by unfold firstV; rw [lk_nI (by omega), e2]]
    exact OkT.cV (s_R_push c.1 h _)
  · obtain ⟨k, hk, ek⟩ := hs.2.1 (Or.inl rfl)
    simp only at ek
    unfold instV
    simp only [show ¬ nI 1 = 0 by decide, show nI 1 = 1 from rfl, show ¬ (1 : Int32) = 0 by decide, if_false, if_true]
    rw [gR_e (by omega) c.1.2.1 (r21 c.1).1, rv27 c.1, e0, s_R_meant c.1 hp c.2.1 hW hdl _ _ (Or.inl rfl), cI_e, ek, aI_e (by omega) (r21 c.1).2 (by omega) (by decide), h.2.1 k (by omega), rv27 c.1, nI_clamp (by omega)]
    exact OkT.cV (s_R_push c.1 h _)
  · obtain ⟨k, hk, ek⟩ := hs.2.1 (Or.inr rfl)
    simp only at ek
    unfold instV
    simp only [show nI 2 = 2 from rfl, show ¬ (2 : Int32) = 0 by decide, show ¬ (2 : Int32) = 1 by decide, if_false, if_true]
    rw [rv27 c.1, ek, nI_clamp (by omega)]
    refine OkT.take c h (fun v st1 N c1 h1 => ?_) (fun N c1 _ h1 => ?_)
    · have hz1 := c1.1.1
      rw [gR_e (by omega) c1.1.2.1 (r21 c1.1).1, rv27 c1.1, e0, s_R_meant c1.1 hp c1.2.1 hW hdl _ _ (Or.inl rfl), cI_e, ek, sI_e (by omega) (r21 c1.1).2 (by omega) (by decide)]
      obtain ⟨g0, g1, g2, g3', g4, g5⟩ := h1
      refine ⟨_, rfl, UpdS.rf.pi (by omega), by rw [xi_ne1 (by decide)]; exact g0, fun j hj => ?_, g2, by rw [xi_ne1 (by decide)]; exact g3', g4.congr (fun a j ha1 ha2 hj => by rw [xi_ne1 (by omega)]) (fun j hj => by rw [xi_ne1 (by omega)]), fun e => by simp at e⟩
      by_cases hjk : j = k
      · subst hjk
        rw [xi_eq]; simp
      · rw [xi_no (by omega)]
        simp only [if_neg hjk]
        exact g1 j hj
    · have hz1 := c1.1.1
      rw [gR_e (by omega) c1.1.2.1 (r21 c1.1).1, rv27 c1.1, e0, s_R_meant c1.1 hp c1.2.1 hW hdl _ _ (Or.inl rfl), cI_e, ek, sI_e (by omega) (r21 c1.1).2 (by omega) (by decide)]
      exact ⟨_, rfl, UpdS.rf.pi (by omega), by rw [xi_ne1 (by decide)]; exact h1⟩
  · obtain ⟨k, hk, ek⟩ := hs.2.2.1 rfl
    simp only at ek
    unfold instV
    simp only [show nI 3 = 3 from rfl, show ¬ (3 : Int32) = 0 by decide, show ¬ (3 : Int32) = 1 by decide, show ¬ (3 : Int32) = 2 by decide, if_false, if_true]
    rw [rv27 c.1, e0, s_R_meant c.1 hp c.2.1 hW hdl _ _ (Or.inr rfl), cI_e, ek, rv27 c.1, nI_clamp (by omega)]
    exact OkT.cV (s_R_call c hW h (List.getElem?_eq_getElem hk))
  · unfold instV
    simp only [show nI 4 = 4 from rfl, show ¬ (4 : Int32) = 0 by decide, show ¬ (4 : Int32) = 1 by decide, show ¬ (4 : Int32) = 2 by decide, show ¬ (4 : Int32) = 3 by decide, if_false, if_true]
    by_cases h0 : i2 = 0
    · rw [if_neg (fun h => h h0), if_pos h0, gR_e (by omega) c.1.2.1 (r25 c.1).1, aI_e (by omega) (r25 c.1).2 ht (by decide), h.2.2.2.2.1.1.2.2.1, rv27 c.1]
      exact OkT.cV (s_R_push c.1 h _)
    · rw [if_pos h0, if_neg h0, gR_e (by omega) c.1.2.1 (r26 c.1).1, aI_e (by omega) (r26 c.1).2 ht (by decide), h.2.2.2.2.1.1.2.2.2.1, rv27 c.1]
      exact OkT.cV (s_R_push c.1 h _)
  · have hi : nI w = 5 ∨ nI w = 6 ∨ nI w = 7 ∨ nI w = 8 := by rcases hw4 with rfl | rfl | rfl | rfl <;> decide
    rw [inst_calc hi]
    have := OkT.cV (s_R_arith c h hi)
    rcases hw4 with rfl | rfl | rfl | rfl
    · simp only [show nI 5 = 5 from rfl, show ¬ (5 : Int32) = 0 by decide, show ¬ (5 : Int32) = 1 by decide, show ¬ (5 : Int32) = 2 by decide, show ¬ (5 : Int32) = 3 by decide, show ¬ (5 : Int32) = 4 by decide, if_false, if_true] at this ⊢
      rw [rv27 c.1]; exact this
    · simp only [show nI 6 = 6 from rfl, show ¬ (6 : Int32) = 0 by decide, show ¬ (6 : Int32) = 1 by decide, show ¬ (6 : Int32) = 2 by decide, show ¬ (6 : Int32) = 3 by decide, show ¬ (6 : Int32) = 4 by decide, show ¬ (6 : Int32) = 5 by decide, if_false, if_true] at this ⊢
      rw [rv27 c.1]; exact this
    · simp only [show nI 7 = 7 from rfl, show ¬ (7 : Int32) = 0 by decide, show ¬ (7 : Int32) = 1 by decide, show ¬ (7 : Int32) = 2 by decide, show ¬ (7 : Int32) = 3 by decide, show ¬ (7 : Int32) = 4 by decide, show ¬ (7 : Int32) = 5 by decide, show ¬ (7 : Int32) = 6 by decide, if_false, if_true] at this ⊢
      rw [rv27 c.1]; exact this
    · simp only [show nI 8 = 8 from rfl, show ¬ (8 : Int32) = 0 by decide, show ¬ (8 : Int32) = 1 by decide, show ¬ (8 : Int32) = 2 by decide, show ¬ (8 : Int32) = 3 by decide, show ¬ (8 : Int32) = 4 by decide, show ¬ (8 : Int32) = 5 by decide, show ¬ (8 : Int32) = 6 by decide, show ¬ (8 : Int32) = 7 by decide, if_false, if_true] at this ⊢
      rw [rv27 c.1]; exact this
  · obtain ⟨j, hj, ej⟩ := hs.2.2.2.1 (Or.inl rfl)
    simp only at ej
    subst ej
    unfold instV
    simp only [show nI 9 = 9 from rfl, show ¬ (9 : Int32) = 4 by decide, show ¬ (9 : Int32) = 5 by decide, show ¬ (9 : Int32) = 6 by decide, show ¬ (9 : Int32) = 7 by decide, show ¬ (9 : Int32) = 8 by decide, show ¬ (9 : Int32) = 0 by decide, show ¬ (9 : Int32) = 1 by decide, show ¬ (9 : Int32) = 2 by decide, show ¬ (9 : Int32) = 3 by decide, if_false, if_true]
    rw [rv27 c.1]
    refine OkT.take c h (fun v st1 N c1 h1 => ?_) (fun N c1 _ h1 => ?_)
    · have hz1 := c1.1.1
      by_cases hv : v = 0
      · rw [gR_e (by omega) c1.1.2.1 (r24 c1.1).1, if_neg (fun h => h hv), if_pos hv, sI_e (by omega) (r24 c1.1).2 ht (by decide), nI_clamp (by omega)]
        exact ⟨_, rfl, UpdS.rf.pi (by omega), h1.goto j⟩
      · rw [gR_e (by omega) c1.1.2.1 (r24 c1.1).1, if_pos hv, if_neg hv, gR_e (by omega) c1.1.2.1 (r24 c1.1).1, aI_e (by omega) (r24 c1.1).2 ht (by decide), h1.2.2.2.2.1.1.2.1, sI_e (by omega) (r24 c1.1).2 ht (by decide)]
        exact ⟨_, rfl, UpdS.rf.pi (by omega), h1.goto n⟩
    · have hz1 := c1.1.1
      rw [gR_e (by omega) c1.1.2.1 (r24 c1.1).1, if_neg (fun h => h rfl), sI_e (by omega) (r24 c1.1).2 ht (by decide)]
      exact ⟨_, rfl, UpdS.rf.pi (by omega), by rw [xi_ne1 (by decide)]; exact h1⟩
  · obtain ⟨j, hj, ej⟩ := hs.2.2.2.1 (Or.inr rfl)
    simp only at ej
    subst ej
    unfold instV
    simp only [show nI 10 = 10 from rfl, show ¬ (10 : Int32) = 4 by decide, show ¬ (10 : Int32) = 5 by decide, show ¬ (10 : Int32) = 6 by decide, show ¬ (10 : Int32) = 7 by decide, show ¬ (10 : Int32) = 8 by decide, show ¬ (10 : Int32) = 0 by decide, show ¬ (10 : Int32) = 1 by decide, show ¬ (10 : Int32) = 2 by decide, show ¬ (10 : Int32) = 3 by decide, show ¬ (10 : Int32) = 9 by decide, if_false, if_true]
    rw [gR_e (by omega) c.1.2.1 (r24 c.1).1, sI_e (by omega) (r24 c.1).2 ht (by decide), nI_clamp (by omega)]
    exact ⟨_, rfl, UpdS.rf.pi (by omega), h.goto j⟩
  · unfold instV
    simp only [show nI 11 = 11 from rfl, show ¬ (11 : Int32) = 4 by decide, show ¬ (11 : Int32) = 5 by decide, show ¬ (11 : Int32) = 6 by decide, show ¬ (11 : Int32) = 7 by decide, show ¬ (11 : Int32) = 8 by decide, show ¬ (11 : Int32) = 0 by decide, show ¬ (11 : Int32) = 1 by decide, show ¬ (11 : Int32) = 2 by decide, show ¬ (11 : Int32) = 3 by decide, show ¬ (11 : Int32) = 9 by decide, show ¬ (11 : Int32) = 10 by decide, if_false, if_true]
    rw [rv27 c.1]
    refine OkT.take c h (fun v st1 N c1 h1 => ?_) (fun N c1 _ h1 => ?_)
    · have hA1 : RefAt (xpi N 268 29 v) := c1.1
      have hA2 : RefAt (xpi (xpi N 268 29 v) 268 22 (nI t.length)) := c1.1
      have ht1 := h1.stk
      obtain ⟨g0, g1, g2, g3', g4, g5⟩ := h1
      simp only [List.length_cons] at g1 g2 g3'
      have e1 : xi (xpi N 268 29 v) 268 0 = 0 := by rw [xi_no (by omega)]; exact g0
      have e2 : xi (xpi N 268 29 v) 268 22 = nI (t.length + 1) := by rw [xi_no (by omega)]; exact g3'
      have e3 : xi (xpi (xpi N 268 29 v) 268 22 (nI t.length)) 268 0 = 0 := by rw [xi_no (by omega)]; exact e1
      have e4 : xi (xpi (xpi N 268 29 v) 268 22 (nI t.length)) 268 29 = v := by rw [xi_no (by omega), xi_eq]
      rw [uC c1.1, gC hA1, e1, if_neg (fun h => h rfl), gC hA1, e2, nI_pred, uC hA1]
      unfold g_R_step_361 endV
      rw [gC hA2, e3, if_neg (fun h => h rfl), gC hA2, xi_eq]
      have hU : UpdS N (xpi (xpi N 268 29 v) 268 22 (nI t.length)) := (UpdS.rf.pi (by omega)).pi (by omega)
      cases t with
      | nil =>
        rw [if_pos (by decide)]
        exact ⟨_, rfl, hU, e3, fun k hk => by rw [xi_ne1 (by decide), xi_ne1 (by decide)]; exact g1 k hk, Nat.zero_le _, xi_eq _ _ _ _, trivial, fun _ => e4⟩
      | cons fr' t' =>
        simp only [List.length_cons] at *
        rw [if_neg (show ¬ nI (t'.length + 1) ≤ 0 from nI_ge (a := 0) (by omega) (by omega)), gC hA2, e4, rv27 hA2]
        refine OkT.tr hU (OkT.cV (s_R_push hA2 ⟨e3, fun k hk => by rw [xi_ne1 (by decide), xi_ne1 (by decide)]; exact g1 k hk, by simp only [List.length_cons]; omega, xi_eq _ _ _ _, g4.2.congr (fun a j ha1 ha2 hj => by rw [xi_ne1 (by omega), xi_ne1 (by omega)]) (fun j hj => by rw [xi_ne1 (by omega), xi_ne1 (by omega)]), fun e => by simp at e⟩ v))
    · have hA1 : RefAt (xpi N 268 29 0) := c1.1
      have e1 : xi (xpi N 268 29 0) 268 0 = 5 := by rw [xi_no (by omega)]; exact h1
      rw [uC c1.1, gC hA1, e1, if_pos (by decide)]
      unfold g_R_step_361
      rw [gC hA1, e1, if_pos (by decide)]
      exact ⟨_, rfl, UpdS.rf.pi (by omega), e1⟩
  · unfold instV
    simp only [show nI 12 = 12 from rfl, show ¬ (12 : Int32) = 4 by decide, show ¬ (12 : Int32) = 5 by decide, show ¬ (12 : Int32) = 6 by decide, show ¬ (12 : Int32) = 7 by decide, show ¬ (12 : Int32) = 8 by decide, show ¬ (12 : Int32) = 0 by decide, show ¬ (12 : Int32) = 1 by decide, show ¬ (12 : Int32) = 2 by decide, show ¬ (12 : Int32) = 3 by decide, show ¬ (12 : Int32) = 9 by decide, show ¬ (12 : Int32) = 10 by decide, show ¬ (12 : Int32) = 11 by decide, if_false, if_true]
    rw [rv27 c.1]
    refine OkT.take c h (fun v st1 N c1 h1 => ?_) (fun N c1 _ h1 => ?_)
    · rw [gC c1.1, h1.1, if_pos (by decide), uC c1.1]
      exact ⟨_, rfl, UpdS.rf.pi (by omega), by decide, xi_eq _ _ _ _⟩
    · rw [gC c1.1, h1, if_neg (by decide), gC c1.1, h1, uC c1.1]
      exact ⟨_, rfl, UpdS.rf.pi (by omega), xi_eq _ _ _ _⟩
theorem s_R_step (c : CtR M p pr) (hW : WF pr) (hC : Clo pr) (hS : SW pr (fr :: t)) (h : StR M (vs, fr :: t, r)) : OkT M (g_R_step 268 (nI p) M) (stepV pr (vs, fr :: t, r)) := by
  obtain ⟨m, n, x, y, st⟩ := fr
  have hz := c.1.1
  have hp := c.2.2
  have h30 := c.2.1.2.2.1
  have ht := h.stk
  obtain ⟨hn20, hmlt⟩ := hS _ (List.mem_cons_self ..)
  simp only at hn20 hmlt
  have hb := List.getElem?_eq_getElem hmlt
  generalize pr.2[m] = b at hb
  have hbm : b ∈ pr.2 := List.mem_of_getElem? hb
  obtain ⟨e1, e2, e3, e4, e5, e6, e7⟩ := c.2.1.2.2.2.2.2 m b hb
  obtain ⟨f1, f2, f3, f4, f5, f6, f7⟩ := h.2.2.2.2.1.1
  have h3 := h.2.2.2.1
  simp only [List.length_cons] at f1 f2 h3
  obtain ⟨cl, hcl⟩ := ownerCl (hW.2 b hbm)
  unfold g_R_step stepV
  simp only [hb]
  rw [gC c.1, h3, nI_pred, gR_e (by omega) c.1.2.1 (r23 c.1).1, aI_e (by omega) (r23 c.1).2 ht (by decide), f1, gR_e (by omega) c.1.2.1 (r24 c.1).1, aI_e (by omega) (r24 c.1).2 ht (by decide), f2, gR_e (by omega) c.1.2.1 (r10 c.1).1, i30, aI_e (by omega) (r10 c.1).2 (by omega) (by decide), e5]
  by_cases hn : n < b.2.2.2.2.length
  · have hi := List.getElem?_eq_getElem hn
    generalize b.2.2.2.2[n] = i at hi
    have him : i ∈ b.2.2.2.2 := List.mem_of_getElem? hi
    have hs := sndOf c.2.1.sz hW hC hbm hcl him
    have h' := h.goto (n + 1)
    have hU : UpdS M (xpi M 291 t.length (nI (n + 1))) := UpdS.rf.pi (by omega)
    have c' := hU.ctx c
    rw [hi, if_pos (nI_lt hn (by omega)), gR_e (by omega) c.1.2.1 (r12 c.1).1, gR_e (by omega) c.1.2.1 (r24 c.1).1, aI_e (by omega) (r24 c.1).2 ht (by decide), f2, i600, aI_e (by omega) (r12 c.1).2 (by omega) (by decide), (e7 n i hi).1, gR_e (by omega) c.1.2.1 (r13 c.1).1, gR_e (by omega) c.1.2.1 (r24 c.1).1, aI_e (by omega) (r24 c.1).2 ht (by decide), f2, i600, aI_e (by omega) (r13 c.1).2 (by omega) (by decide), (e7 n i hi).2, gR_e (by omega) c.1.2.1 (r7 c.1).1, aI_e (by omega) (r7 c.1).2 (by omega) (by decide), e1, gR_e (by omega) c.1.2.1 (r24 c.1).1, aI_e (by omega) (r24 c.1).2 ht (by decide), f2, nI_1, sI_e (by omega) (r24 c.1).2 ht (by decide), hcl]
    simp only [Option.getD_some]
    exact OkT.tr hU (s_R_inst c' hW h' hb hcl hs rfl)
  · rw [List.getElem?_eq_none (by omega), if_neg (show ¬ nI n < nI b.2.2.2.2.length from nI_nlt (by omega) (by omega)), uC c.1]
    exact ⟨_, rfl, UpdS.rf.pi (by omega), by decide, xi_eq _ _ _ _⟩
def OkY (M : XM) (g : XP) (r : AR) : Prop := match r with
  | .inl v => ∃ N, g = rI v N ∧ UpdS M N ∧ xi N 268 0 = 0
  | .inr e => ∃ v N, g = rI v N ∧ UpdS M N ∧ xi N 268 0 = nI (ec5 e)
theorem OkY.tr {N : XM} {g : XP} {q : AR} (h : UpdS M N) (k : OkY N g q) : OkY M g q := by
  unfold OkY at *
  split at k
  · obtain ⟨K, k1, k2, k3⟩ := k
    exact ⟨K, k1, h.tr k2, k3⟩
  · obtain ⟨v, K, k1, k2, k3⟩ := k
    exact ⟨v, K, k1, h.tr k2, k3⟩
theorem ec5_pos (e : Nat) : 0 < ec5 e := by unfold ec5; split <;> omega
theorem s_R_stop (hA : RefAt M) {e : Nat} (h10 : ec5 e < 10) (h : xi M 268 0 = nI (ec5 e)) {q s : Int32} {n : Nat} (hn : 0 < n) : OkY M (g_R_run_94 n 268 q s M) (.inr e) := by
  obtain ⟨n', rfl⟩ : ∃ n', n = n' + 1 := ⟨n - 1, by omega⟩
  have hp := ec5_pos e
  unfold g_R_run_94 g_R_run_136
  rw [gC hA, h, if_pos (show ¬ nI (ec5 e) = 0 from fun h => by have := (nI_eq (b := 0) (by omega) (by decide)).mp h; omega), gC hA, h, if_neg (show ¬ nI (ec5 e) ≤ 0 from nI_ge (a := 0) hp (by omega))]
  exact ⟨0, M, rfl, UpdS.rf, h⟩
theorem s_R_loop (hW : WF pr) (hC : Clo pr) : ∀ (k : Nat) (s : ST) (M : XM) (i : Nat), i + k = 400 → CtR M p pr → StR M s → SW pr s.2.1 → 0 < s.2.1.length → ∀ n, k + 1 < n → OkY M (g_R_run_94 n 268 (nI p) (nI i) M) (runV pr k s) := by
  intro k
  induction k with
  | zero =>
    intro s M i hi c h hS h0 n hn
    obtain ⟨n', rfl⟩ : ∃ n', n = n' + 1 := ⟨n - 1, by omega⟩
    have h8 := h.2.2.1
    unfold g_R_run_94 runV
    rw [gC c.1, h.1, if_neg (fun h => h rfl), gC c.1, h.2.2.2.1, if_neg (show ¬ nI s.2.1.length ≤ 0 from nI_ge (a := 0) h0 (by omega)), if_neg (show ¬ ¬ nI i = 400 from fun h => h (by rw [show i = 400 by omega]; rfl)), uC c.1]
    have hU : UpdS M (xpi M 268 0 5) := UpdS.rf.pi (by omega)
    exact OkY.tr hU (s_R_stop (e := 0) (hU.ref c.1) (by decide) (xi_eq _ _ _ _) (by omega))
  | succ k ih =>
    intro s M i hi c h hS h0 n hn
    obtain ⟨n', rfl⟩ : ∃ n', n = n' + 1 := ⟨n - 1, by omega⟩
    obtain ⟨vs, fs, r⟩ := s
    cases fs with
    | nil => simp at h0
    | cons fr t =>
      have ht := h.stk
      unfold g_R_run_94 runV
      rw [gC c.1, h.1, if_neg (fun h => h rfl), gC c.1, h.2.2.2.1]
      simp only [List.length_cons]
      rw [if_neg (show ¬ nI (t.length + 1) ≤ 0 from nI_ge (a := 0) (by omega) (by omega)), if_pos (show ¬ nI i = 400 from fun h => by have := (nI_eq (b := 400) (by omega) (by decide)).mp h; omega), rv27 c.1]
      have hst := s_R_step c hW hC hS h
      have hsw := step_sw (s := (vs, fr :: t, r)) c.2.1.sz hW hC hS
      cases hr : stepV pr (vs, fr :: t, r) with
      | inr e =>
        rw [hr] at hst
        obtain ⟨N, n1, n2, n3, n4⟩ := hst
        rw [n1, cV_e]
        exact OkY.tr n2 (s_R_stop (n2.ref c.1) n3 n4 (by omega))
      | inl s' =>
        rw [hr] at hst hsw
        obtain ⟨N, n1, n2, n3⟩ := hst
        have c' := n2.ctx c
        rw [n1, cV_e, nI_1]
        simp only
        by_cases h0' : s'.2.1.length = 0
        · rw [if_pos h0']
          obtain ⟨n'', rfl⟩ : ∃ n'', n' = n'' + 1 := ⟨n' - 1, by omega⟩
          unfold g_R_run_94 g_R_run_136
          rw [gC c'.1, n3.1, if_neg (fun h => h rfl), gC c'.1, n3.2.2.2.1, h0', if_pos (by decide), gC c'.1, n3.1, if_pos (by decide), gC c'.1, n3.2.2.2.2.2 h0']
          exact ⟨N, rfl, n2, n3.1⟩
        · rw [if_neg h0']
          exact OkY.tr n2 (ih s' N (i + 1) (by omega) c' n3 hsw (by omega) n' (by omega))
theorem s_R_zero {j : Nat} {x y : Int32} {q : Int32} (hW : WF pr) (hC : Clo pr) (hj : j < pr.2.length) (hq : q = nI p) : ∀ (k : Nat) (M : XM) (i : Nat), i + k = 30 → CtR M p pr → xi M 268 0 = 0 → (∀ a, a < i → xi M 289 a = 0) → ∀ n, k < n → OkY M (g_R_run_57 n 268 (nI j) x y q (nI i) M) (execV pr j x y) := by
  subst hq
  intro k
  induction k with
  | zero =>
    intro M i hi c h0 hv n hn
    obtain ⟨n', rfl⟩ : ∃ n', n = n' + 1 := ⟨n - 1, by omega⟩
    unfold g_R_run_57 execV
    rw [if_pos (show (30 : Int32) ≤ nI i from nI_le (a := 30) (by omega) (by omega)), uC c.1]
    have hU : UpdS M (xpi M 268 22 0) := UpdS.rf.pi (by omega)
    have c' := hU.ctx c
    have hs0 : StR (xpi M 268 22 0) (fun _ => 0, [], xi (xpi M 268 22 0) 268 29) := ⟨by rw [xi_no (by omega)]; exact h0, fun k hk => by rw [xi_ne1 (by decide)]; exact hv k (by omega), Nat.zero_le _, xi_eq _ _ _ _, trivial, fun _ => rfl⟩
    rw [rv27 c'.1]
    have hb := s_R_begin c'.1 hs0 j x y
    unfold beginV at hb
    rw [if_pos (by decide)] at hb
    obtain ⟨K, k1, k2, k3⟩ := hb
    rw [k1, cV_e]
    exact OkY.tr hU (OkY.tr k2 (s_R_loop hW hC 400 (fun _ => 0, [(j, 0, x, y, [])], 0) K 0 (by decide) (k2.ctx c') ⟨k3.1, k3.2.1, k3.2.2.1, k3.2.2.2.1, k3.2.2.2.2.1, fun e => by simp at e⟩ (SW.put (fun f hf => by cases hf) (Nat.zero_le _) hj) (by simp) FU (show 401 < 5000 by decide)))
  | succ k ih =>
    intro M i hi c h0 hv n hn
    obtain ⟨n', rfl⟩ : ∃ n', n = n' + 1 := ⟨n - 1, by omega⟩
    have hz := c.1.1
    unfold g_R_run_57
    rw [if_neg (show ¬ (30 : Int32) ≤ nI i from nI_ge (b := 30) (by omega) (by omega)), gR_e (by omega) c.1.2.1 (r21 c.1).1, sI_e (by omega) (r21 c.1).2 (by omega) (by decide), nI_1]
    have hU : UpdS M (xpi M 289 i 0) := UpdS.rf.pi (by omega)
    refine OkY.tr hU (ih _ (i + 1) (by omega) (hU.ctx c) (by rw [xi_ne1 (by decide)]; exact h0) (fun a ha => ?_) n' (by omega))
    by_cases hai : a = i
    · subst hai; exact xi_eq _ _ _ _
    · rw [xi_no (by omega)]; exact hv a (by omega)
theorem s_R_run (c : CtR M p pr) (hR0 : p = 1 → ∃ p0, RepR M 0 p0 ∧ WF p0) (hW : WF pr) (hC : p = 1 → Clo pr) (m x y : Int32) : OkY M (g_R_run 268 (nI p) m x y M) (goV pr p m x y) := by
  have hz := c.1.1
  have hp := c.2.2
  have h30 := c.2.1.2.2.1
  have h9 : g_R_run 268 (nI p) m x y M = g_R_run_9 268 (nI p) m x y (nI p) M := by
    unfold g_R_run
    rcases (show p = 0 ∨ p = 1 by omega) with rfl | rfl
    · rw [if_pos (show nI 0 = 0 from rfl)]; rfl
    · rw [if_neg (by decide)]; rfl
  rw [h9]
  unfold g_R_run_9 goV
  rw [rv27 c.1, s_R_noMethod c.1 hp c.2.1 hW, cI_e]
  cases hno : noMeth pr m with
  | true =>
    rw [if_neg (by decide), if_pos rfl]
    unfold g_R_run_42
    rw [s_code c.1, if_neg (by decide)]
    exact ⟨_, _, rfl, UpdS.rf.pi (by omega), xi_eq _ _ _ _⟩
  | false =>
    rw [if_pos (show bI false = 0 from rfl), if_neg (show ¬ (false = true) by decide)]
    obtain ⟨j, b, rfl, hj, hb⟩ := noMeth_lk h30 hno
    have h41 : Clo pr → OkY M (g_R_run_41 268 (nI j) x y (nI p) 268 M) (execV pr j x y) := by
      intro hClo
      unfold g_R_run_41 g_R_run_42
      have hU : UpdS M (xpi M 268 0 0) := UpdS.rf.pi (by omega)
      rw [s_code c.1, if_pos (by decide)]
      exact OkY.tr hU (s_R_zero hW hClo hj rfl 30 (xpi M 268 0 0) 0 (by decide) (hU.ctx c) (xi_eq _ _ _ _) (fun a ha => by omega) FU (show 30 < 5000 by decide))
    rw [nI_clamp (by omega)]
    rcases (show p = 0 ∨ p = 1 by omega) with rfl | rfl
    · rw [if_neg (fun h => h rfl), rv27 c.1, s_R_firstFault c.1 c.2.1 hW, cI_e]
      rcases fault_ge c.2.1.sz with hf | ⟨f, hf1, hf⟩
      · rw [hf, if_pos (by decide), if_neg (fun h => h.2 rfl)]
        exact h41 (fault_clo c.2.1.sz hf)
      · have hne : ¬ nI f = -1 := fun e => nI_pos (show f < 2 ^ 31 by omega) (by rw [e]; decide)
        rw [hf, if_neg (nI_pos (by omega)), if_pos ⟨rfl, hne⟩]
        unfold g_R_run_42
        rw [s_code c.1, if_neg (by decide)]
        exact ⟨_, _, rfl, UpdS.rf.pi (by omega), xi_eq _ _ _ _⟩
    · rw [if_pos (by decide), if_neg (fun h => by cases h.1)]
      exact h41 (hC rfl)
end PRR
