/-! the class's machine, an instruction -/
theorem nn_in {x n : Int32} {l : Nat} (hl : l < 100) (hn : n = nI l) (h : inV x n = true) : ∃ j : Nat, j < l ∧ x = nI j := by
  subst hn
  unfold inV at h
  rcases pk_ix (n := l) x (by omega) with h1 | h1 | ⟨j, hj, rfl⟩
  · rw [show decide (x < 0) = true by simp [h1]] at h; cases h
  · rw [show decide (nI l ≤ x) = true by simp [h1]] at h; simp at h
  · exact ⟨j, hj, rfl⟩
/-- what a sound instruction has -/
def Snd (pr : PR) (cl : List CT) (b : MB) (i : IN) : Prop :=
  (i.1 = 0 → ∃ (j : Nat) (q : CT), i.2 = nI j ∧ cl[j]? = some q) ∧ ((i.1 = 1 ∨ i.1 = 2) → ∃ k : Nat, k < pr.2.length ∧ meantV pr cl i.2 3 = nI k) ∧ (i.1 = 3 → ∃ k : Nat, k < pr.2.length ∧ meantV pr cl i.2 4 = nI k) ∧
  ((i.1 = 9 ∨ i.1 = 10) → ∃ j : Nat, j < b.2.2.2.2.length ∧ i.2 = nI j) ∧ ∃ w : Nat, w < 13 ∧ i.1 = nI w
theorem snd_of {pr : PR} {cl : List CT} {b : MB} {i : IN} (h30 : pr.2.length ≤ 30) (h20 : b.2.2.2.2.length ≤ 20) (hl : cl.length ≤ 20) (hcl : lk pr.1 b.1 = some cl) (hb : okM pr b) (hi : i ∈ b.2.2.2.2) (h : soundV pr b i = true) : Snd pr cl b i := by
  unfold soundV at h
  rw [hcl] at h
  simp only [Option.getD_some] at h
  refine ⟨fun e => ?_, fun e => ?_, fun e => ?_, fun e => ?_, hb.2.2.2.2 i hi⟩
  · rw [if_pos e] at h
    obtain ⟨q, hq, -⟩ := holds_some h
    obtain ⟨j, e1, -, e2⟩ := lk_some (by omega) hq
    exact ⟨j, q, e1, e2⟩
  · rw [if_neg (by rcases e with e | e <;> rw [e] <;> decide), if_pos e] at h
    rcases meant_ge pr h30 cl i.2 3 with e' | ⟨k, hk, e'⟩
    · simp [e'] at h
    · exact ⟨k, hk, e'⟩
  · rw [if_neg (by rw [e]; decide), if_neg (by rw [e]; decide), if_pos e] at h
    rcases meant_ge pr h30 cl i.2 4 with e' | ⟨k, hk, e'⟩
    · simp [e'] at h
    · exact ⟨k, hk, e'⟩
  · rw [if_neg (by rcases e with e | e <;> rw [e] <;> decide), if_neg (by rcases e with e | e <;> rw [e] <;> decide), if_neg (by rcases e with e | e <;> rw [e] <;> decide), if_neg (by rcases e with e | e <;> rw [e] <;> decide), if_pos e] at h
    exact nn_in (by omega) rfl h
section PST
variable {M : XM} {P : Nat} {pr : PR} {vs : Nat → Int32} {r : Int32} {t : List FR} {fr : FR} {m n : Nat} {x y v : Int32} {st : List Int32} {cl : List CT} {b : MB} {i : IN}
theorem fr_at (c : Ctx M P pr) {f : Nat} (hf : f < 8) : 252 + 2 * f < xz M ∧ xt M (252 + 2 * f) = (25, 0) := by
  obtain ⟨l0, l1, l2, l3, l4, l5, l6, p1, p2, hS, hE, hR⟩ := id c.lay
  have hE1 := hE.1
  exact ⟨by omega, (hE.2.2.2.2.2.2 f hf).2.1⟩
theorem rv25 (c : Ctx M P pr) {f : Nat} (hf : f < 8) {g : XP} : rv M 25 (252 + 2 * f) g = g := rv_e (fr_at c hf).1 (fr_at c hf).2
theorem rv26 (c : Ctx M P pr) {g : XP} : rv M 26 249 g = g := by
  obtain ⟨l0, l1, l2, l3, l4, l5, l6, p1, p2, hS, hE, hR⟩ := id c.lay
  have hE1 := hE.1
  exact rv_e (by omega) hE.2.1
theorem OkS.take (c : Ctx M P pr) (h : StC M P (vs, (m, n, x, y, st) :: t, r)) {K : Int32 → XM → XP} {k : Int32 → List Int32 → SR} (hk : ∀ v st' N, st = v :: st' → Ctx N P pr → StC N P (vs, (m, n, x, y, st') :: t, r) → OkS N P (K v N) (k v st')) : OkS M P (cI (g_F_take (252 + 2 * t.length) M) K) (popV st k) := by
  cases st with
  | nil =>
    rw [s_F_take0 c h]
    exact ⟨M, rfl, UpdE.rf⟩
  | cons v st' =>
    obtain ⟨N, n1, n2, n3⟩ := s_F_take c h
    rw [n1, cI_e]
    exact OkS.tr n2 (hk v st' N rfl (n2.ctx c) n3)
theorem StC.goto (h : StC M P (vs, (m, n, x, y, st) :: t, r)) (n' : Nat) : StC (xpi M (252 + 2 * t.length) 3 (nI n')) P (vs, (m, n', x, y, st) :: t, r) := by
  obtain ⟨h1, h2, h3, ⟨⟨f1, f2, f3, f4, f5, f6, f7⟩, h4⟩, h5⟩ := h
  refine ⟨fun k hk => ?_, h2, ?_, ⟨⟨f1, xi_eq _ _ _ _, ?_, ?_, ?_, f6, ?_⟩, h4.congr fun a ha1 ha2 => ⟨by rw [xi_row (by omega)], rfl⟩⟩, fun e => by simp at e⟩
  · rw [xi_ne1 (by omega)]; exact h1 k hk
  · rw [xi_ne1 (by omega)]; exact h3
  · rw [xi_no (by omega)]; exact f3
  · rw [xi_no (by omega)]; exact f4
  · rw [xi_no (by omega)]; exact f5
  · exact f7.congr fun j _ hj => by rw [xi_no (by omega)]
theorem s_E_calculate (c : Ctx M P pr) (h : StC M P (vs, (m, n, x, y, st) :: t, r)) {w : Int32} : (w = 5 ∨ w = 6 ∨ w = 7 ∨ w = 8) → OkS M P (g_E_calculate (252 + 2 * t.length) w M) (calcV vs r t (m, n, x, y, st) w) := by
  intro hw
  have ht := h.stk
  unfold g_E_calculate calcV
  rw [rv25 c ht]
  refine OkS.take c h fun b st1 M1 _ c1 h1 => ?_
  rw [rv25 c1 ht]
  refine OkS.take c1 h1 fun a st2 M2 _ c2 h2 => ?_
  rcases hw with rfl | rfl | rfl | rfl
  · rw [if_neg (fun h => h rfl), rv25 c2 ht, if_neg (by simp), if_pos rfl]
    exact OkS.cV (s_F_put c2 h2 _)
  · rw [if_pos (by decide), if_neg (fun h => h rfl), rv25 c2 ht, if_neg (by simp), if_neg (by decide), if_pos rfl]
    exact OkS.cV (s_F_put c2 h2 _)
  · rw [if_pos (by decide), if_pos (by decide), if_neg (fun h => h rfl), rv25 c2 ht, if_neg (by simp), if_neg (by decide), if_neg (by decide), if_pos rfl]
    exact OkS.cV (s_F_put c2 h2 _)
  · rw [if_pos (by decide), if_pos (by decide), if_pos (by decide)]
    by_cases hb : b = 0
    · rw [if_neg (fun h => h hb), if_pos ⟨rfl, hb⟩]
      exact OkS.x0 c2
    · rw [if_pos hb, if_neg hb, rv25 c2 ht, if_neg (fun h => hb h.2), if_neg (by decide), if_neg (by decide), if_neg (by decide)]
      exact OkS.cV (s_F_put c2 h2 _)
theorem s_E_call (c : Ctx M P pr) (hW : WF pr) (h : StC M P (vs, (m, n, x, y, st) :: t, r)) {k : Nat} {d : MB} (hk : pr.2[k]? = some d) : OkS M P (g_E_call 249 (252 + 2 * t.length) (P + 27 + 3 * k) M) (invV pr vs r t (m, n, x, y, st) k) := by
  have ht := h.stk
  have hd := (hW.2 d (List.mem_of_getElem? hk)).2.1
  have hg : ∀ {N : XM} (cN : Ctx N P pr) {F : Int32 → XP}, gI N 23 (P + 27 + 3 * k) 2 F = F d.2.2.1 := by
    intro N cN F
    obtain ⟨hm30, hxr, hMa, hMi⟩ := cN.rep.memb cN.at' hk
    have hza := hMa.1
    rw [gI_e (by omega) hMa.2.1, hMi.2.2.1]
  have hb : ∀ {N : XM} (cN : Ctx N P pr) {st' : List Int32} (x' y' : Int32), StC N P (vs, (m, n, x, y, st') :: t, r) → OkS N P (g_E_call_33 249 (P + 27 + 3 * k) y' x' N) (beginV vs r ((m, n, x, y, st') :: t) k x' y') := by
    intro N cN st' x' y' hs
    unfold g_E_call_33
    rw [rv26 cN]
    exact OkS.cV (s_E_begin cN hs k x' y')
  have h16 : ∀ {N : XM} (cN : Ctx N P pr) {st' : List Int32} (y' : Int32), StC N P (vs, (m, n, x, y, st') :: t, r) → (d.2.2.1 = 1 ∨ d.2.2.1 = 2) → OkS N P (g_E_call_16 249 (252 + 2 * t.length) (P + 27 + 3 * k) y' N) (popV st' fun x' st2 => beginV vs r ((m, n, x, y, st2) :: t) k x' y') := by
    intro N cN st' y' hs hd1
    unfold g_E_call_16
    rw [hg cN, if_neg (by rcases hd1 with e | e <;> rw [e] <;> decide), rv25 cN ht]
    exact OkS.take cN hs fun x' st2 N2 _ c2 h2 => hb c2 x' y' h2
  unfold g_E_call invV
  rw [hg c, hk]
  simp only
  rcases hd with e | e | e | e
  · rw [if_pos (by rw [e]; decide), if_neg (by rw [e]; decide), if_neg (by rw [e]; decide)]
    unfold g_E_call_16
    rw [hg c, if_pos (by rw [e]; decide)]
    exact hb c 0 0 h
  · rw [if_pos (by rw [e]; decide), if_neg (by rw [e]; decide), if_neg (by rw [e]; decide)]
    unfold g_E_call_16
    rw [hg c, if_pos (by rw [e]; decide)]
    exact hb c 0 0 h
  · rw [if_pos (by rw [e]; decide), if_neg (by rw [e]; decide), if_pos e]
    exact h16 c 0 h (Or.inl e)
  · rw [if_neg (by rw [e]; decide), if_pos e, rv25 c ht]
    exact OkS.take c h fun y' st1 N1 _ c1 h1 => h16 c1 y' h1 (Or.inr e)
theorem s_E_useConstant (c : Ctx M P pr) (hW : WF pr) (h : StC M P (vs, (m, n, x, y, st) :: t, r)) (hm : pr.2[m]? = some b) (hcl : lk pr.1 b.1 = some cl) (hs : Snd pr cl b i) (hi : i.1 = 0 ∨ i.1 = 1 ∨ i.1 = 2 ∨ i.1 = 3) : OkS M P (g_E_useConstant 249 P (252 + 2 * t.length) i.1 i.2 M) (instV pr cl vs r t (m, n, x, y, st) i) := by
  have ht := h.stk
  obtain ⟨l0, l1, l2, l3, l4, l5, l6, p1, p2, hS, hE, hR⟩ := id c.lay
  have hE1 := hE.1
  have h30 := c.rep.2.2.1
  have h6 := c.rep.1
  have hz := c.at'.1
  obtain ⟨hm30, hxr, hMa, hMi⟩ := c.rep.memb c.at' hm
  have hza := hMa.1
  obtain ⟨d, e0, hd, hdl⟩ := lk_some (by omega) hcl
  obtain ⟨hc6, hxc, hPa, hPi⟩ := c.rep.pool c.at' hdl
  have hzp := hPa.1
  have hl20 := hPi.1
  unfold g_E_useConstant instV
  rw [gR_e (fr_at c ht).1 (fr_at c ht).2 h.2.2.2.1.1.1, gI_e (by omega) hMa.2.1, hMi.1, e0]
  have hmt : ∀ k : Nat, k < pr.2.length → (meantV pr cl i.2 3 = nI k ∨ meantV pr cl i.2 4 = nI k) → meantC pr cl i.2 = nI k := by
    intro k hk e
    have hne : ¬ nI k = -1 := fun e => nI_pos (show k < 2 ^ 31 by omega) (by rw [e]; decide)
    rcases e with e | e
    · rw [meant_kind (Or.inl rfl) (by rw [e]; exact hne), e]
    · rw [meant_kind (Or.inr rfl) (by rw [e]; exact hne), e]
  rcases hi with e | e | e | e
  · obtain ⟨j, q, e1, e2⟩ := hs.1 e
    have hj : j < cl.length := (List.getElem?_eq_some_iff.mp e2).1
    rw [if_neg (fun h => h e), if_pos e, gR_e (by omega) c.at'.2.1 c.at'.2.2.2.2.1, aR_e (by omega) c.at'.2.2.1 hc6 (by decide) hxc, gR_e (by omega) hPa.2.1 hPa.2.2.2.2.2.2.1, e1, aI_e (by omega) hPa.2.2.2.1 (by omega) (by decide), (hPi.2.2 j q e2).2.1, rv25 c ht]
    rw [show firstV cl (nI j) = q.2.1 by unfold firstV; rw [lk_nI (by omega), e2]]
    exact OkS.cV (s_F_put c h _)
  · obtain ⟨k, hk, ek⟩ := hs.2.1 (Or.inl e)
    rw [if_pos (by rw [e]; decide), if_neg (by rw [e]; decide), if_pos e, rv_e (by omega) c.at'.2.1, s_P_meant c.at' c.rep hW hdl, cI_e, hmt k hk (Or.inl ek), if_neg (fun h => h e), gR_e (by omega) hE.2.1 hE.2.2.2.2.1, aI_e (by omega) hE.2.2.1 (by omega) (by decide), h.1 k (by omega), rv25 c ht, ek, nI_clamp (by omega)]
    exact OkS.cV (s_F_put c h _)
  · obtain ⟨k, hk, ek⟩ := hs.2.1 (Or.inr e)
    rw [if_pos (by rw [e]; decide), if_neg (by rw [e]; decide), if_neg (by rw [e]; decide), if_pos e, rv_e (by omega) c.at'.2.1, s_P_meant c.at' c.rep hW hdl, cI_e, hmt k hk (Or.inl ek), if_pos (by rw [e]; decide), if_neg (fun h => h e), gR_e (by omega) hE.2.1 hE.2.2.2.2.1, rv25 c ht, ek, nI_clamp (by omega)]
    refine OkS.take c h fun v st1 N _ c1 h1 => ?_
    obtain ⟨-, -, -, -, -, -, -, -, -, -, hE', -⟩ := id c1.lay
    have hE1' := hE'.1
    rw [sI_e (by omega) hE'.2.2.1 (show k < 30 by omega) (by decide)]
    obtain ⟨g1, g2, g3, g4, g5⟩ := h1
    refine ⟨_, rfl, UpdE.rf.pi (by omega) (by omega), fun j hj => ?_, g2, by rw [xi_ne1 (by omega)]; exact g3, g4.congr fun a ha1 ha2 => ⟨by rw [xi_row (by omega)], rfl⟩, fun e => by simp at e⟩
    by_cases hjk : j = k
    · subst hjk
      rw [xi_eq]; simp
    · rw [xi_no (by omega)]
      simp only [if_neg hjk]
      exact g1 j hj
  · obtain ⟨k, hk, ek⟩ := hs.2.2.1 e
    obtain ⟨k1, k2, k3, k4⟩ := c.rep.memb c.at' (List.getElem?_eq_getElem hk)
    rw [if_pos (by rw [e]; decide), if_neg (by rw [e]; decide), if_neg (by rw [e]; decide), if_neg (by rw [e]; decide), if_pos e, rv_e (by omega) c.at'.2.1, s_P_meant c.at' c.rep hW hdl, cI_e, hmt k hk (Or.inr ek), if_pos (by rw [e]; decide), if_pos (by rw [e]; decide), gR_e (by omega) c.at'.2.1 c.at'.2.2.2.2.2.1, aR_e (by omega) c.at'.2.2.2.1 k1 (by decide) k2, rv26 c, ek, nI_clamp (by omega)]
    exact OkS.cV (s_E_call c hW h (List.getElem?_eq_getElem hk))
theorem s_E_steer (c : Ctx M P pr) (h : StC M P (vs, (m, n, x, y, st) :: t, r)) (h20 : b.2.2.2.2.length ≤ 20) (hs : Snd pr cl b i) (hi : i.1 = 4 ∨ i.1 = 9 ∨ i.1 = 10 ∨ i.1 = 11 ∨ i.1 = 12) : OkS M P (g_E_steer 249 (252 + 2 * t.length) i.1 i.2 M) (instV pr cl vs r t (m, n, x, y, st) i) := by
  have ht := h.stk
  obtain ⟨i1, i2⟩ := i
  simp only at hi
  unfold g_E_steer instV
  rcases hi with rfl | rfl | rfl | rfl | rfl
  · simp only [show ¬ (4 : Int32) = 0 by decide, show ¬ (4 : Int32) = 1 by decide, show ¬ (4 : Int32) = 2 by decide, show ¬ (4 : Int32) = 3 by decide, if_false, if_true]
    by_cases h0 : i2 = 0
    · rw [if_neg (fun h => h h0), if_pos h0, gI_e (fr_at c ht).1 (fr_at c ht).2, h.2.2.2.1.1.2.2.1, rv25 c ht]
      exact OkS.cV (s_F_put c h _)
    · rw [if_pos h0, if_neg h0, gI_e (fr_at c ht).1 (fr_at c ht).2, h.2.2.2.1.1.2.2.2.1, rv25 c ht]
      exact OkS.cV (s_F_put c h _)
  · obtain ⟨j, hj, ej⟩ := hs.2.2.2.1 (Or.inl rfl)
    simp only at ej
    subst ej
    simp only [show ¬ (9 : Int32) = 4 by decide, show ¬ (9 : Int32) = 5 by decide, show ¬ (9 : Int32) = 6 by decide, show ¬ (9 : Int32) = 7 by decide, show ¬ (9 : Int32) = 8 by decide, show ¬ (9 : Int32) = 0 by decide, show ¬ (9 : Int32) = 1 by decide, show ¬ (9 : Int32) = 2 by decide, show ¬ (9 : Int32) = 3 by decide, if_false, if_true]
    rw [rv25 c ht]
    refine OkS.take c h fun v st1 N _ c1 h1 => ?_
    by_cases hv : v = 0
    · rw [if_neg (fun h => h hv), if_pos hv, uI_e (fr_at c1 ht).1 (fr_at c1 ht).2, nI_clamp (by omega)]
      exact ⟨_, rfl, UpdE.rf.pi (by omega) (by omega), h1.goto j⟩
    · rw [if_pos hv, if_neg hv]
      exact ⟨_, rfl, UpdE.rf, h1⟩
  · obtain ⟨j, hj, ej⟩ := hs.2.2.2.1 (Or.inr rfl)
    simp only at ej
    subst ej
    simp only [show ¬ (10 : Int32) = 4 by decide, show ¬ (10 : Int32) = 5 by decide, show ¬ (10 : Int32) = 6 by decide, show ¬ (10 : Int32) = 7 by decide, show ¬ (10 : Int32) = 8 by decide, show ¬ (10 : Int32) = 0 by decide, show ¬ (10 : Int32) = 1 by decide, show ¬ (10 : Int32) = 2 by decide, show ¬ (10 : Int32) = 3 by decide, show ¬ (10 : Int32) = 9 by decide, if_false, if_true]
    rw [uI_e (fr_at c ht).1 (fr_at c ht).2, nI_clamp (by omega)]
    exact ⟨_, rfl, UpdE.rf.pi (by omega) (by omega), h.goto j⟩
  · simp only [show ¬ (11 : Int32) = 4 by decide, show ¬ (11 : Int32) = 5 by decide, show ¬ (11 : Int32) = 6 by decide, show ¬ (11 : Int32) = 7 by decide, show ¬ (11 : Int32) = 8 by decide, show ¬ (11 : Int32) = 0 by decide, show ¬ (11 : Int32) = 1 by decide, show ¬ (11 : Int32) = 2 by decide, show ¬ (11 : Int32) = 3 by decide, show ¬ (11 : Int32) = 9 by decide, show ¬ (11 : Int32) = 10 by decide, if_false, if_true]
    rw [rv25 c ht]
    refine OkS.take c h fun v st1 N _ c1 h1 => ?_
    rw [rv26 c1]
    exact OkS.cV (s_E_end c1 h1 v)
  · simp only [show ¬ (12 : Int32) = 4 by decide, show ¬ (12 : Int32) = 5 by decide, show ¬ (12 : Int32) = 6 by decide, show ¬ (12 : Int32) = 7 by decide, show ¬ (12 : Int32) = 8 by decide, show ¬ (12 : Int32) = 0 by decide, show ¬ (12 : Int32) = 1 by decide, show ¬ (12 : Int32) = 2 by decide, show ¬ (12 : Int32) = 3 by decide, show ¬ (12 : Int32) = 9 by decide, show ¬ (12 : Int32) = 10 by decide, show ¬ (12 : Int32) = 11 by decide, if_false, if_true]
    rw [rv25 c ht]
    exact OkS.take c h fun v st1 N _ c1 h1 => OkS.x0 c1
end PST
