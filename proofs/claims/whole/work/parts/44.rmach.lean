/-! the reference's machine -/
def FrR (M : XM) (f : Nat) (fr : FR) : Prop := xi M 290 f = nI fr.1 ∧ xi M 291 f = nI fr.2.1 ∧ xi M 292 f = fr.2.2.1 ∧ xi M 293 f = fr.2.2.2.1 ∧ xi M 294 f = nI fr.2.2.2.2.length ∧ fr.2.2.2.2.length ≤ 8 ∧ StkIs M 295 (8 * f) fr.2.2.2.2
def FsR (M : XM) : List FR → Prop
  | [] => True
  | fr :: t => FrR M t.length fr ∧ FsR M t
theorem FrR.congr {M N : XM} {f : Nat} {fr : FR} (h : FrR M f fr) (e : ∀ a, 290 ≤ a → a ≤ 294 → xi N a f = xi M a f) (e2 : ∀ j, j < 8 * f + 8 → xi N 295 j = xi M 295 j) : FrR N f fr := by
  obtain ⟨h1, h2, h3, h4, h5, h6, h7⟩ := h
  exact ⟨by rw [e _ (by omega) (by omega)]; exact h1, by rw [e _ (by omega) (by omega)]; exact h2, by rw [e _ (by omega) (by omega)]; exact h3, by rw [e _ (by omega) (by omega)]; exact h4, by rw [e _ (by omega) (by omega)]; exact h5, h6, h7.congr fun j _ hj => e2 j (by omega)⟩
theorem FsR.congr {M N : XM} : ∀ {l : List FR}, FsR M l → (∀ a j, 290 ≤ a → a ≤ 294 → j < l.length → xi N a j = xi M a j) → (∀ j, j < 8 * l.length → xi N 295 j = xi M 295 j) → FsR N l
  | [], _, _, _ => trivial
  | fr :: t, h, e, e2 => ⟨h.1.congr (fun a h1 h2 => e a _ h1 h2 (by simp only [List.length_cons]; omega)) fun j hj => e2 j (by simp only [List.length_cons]; omega), FsR.congr h.2 (fun a j h1 h2 hj => e a j h1 h2 (by simp only [List.length_cons]; omega)) fun j hj => e2 j (by simp only [List.length_cons]; omega)⟩
def StR (M : XM) (s : ST) : Prop := xi M 268 0 = 0 ∧ (∀ k, k < 30 → xi M 289 k = s.1 k) ∧ s.2.1.length ≤ 8 ∧ xi M 268 22 = nI s.2.1.length ∧ FsR M s.2.1 ∧ (s.2.1.length = 0 → xi M 268 29 = s.2.2)
def UpdS (M N : XM) : Prop := xz N = xz M ∧ xu N = xu M ∧ xt N = xt M ∧ xr N = xr M ∧ xj N = xj M ∧ ∀ a, a ≠ 268 → (a < 289 ∨ 296 ≤ a) → xi N a = xi M a
theorem UpdS.rf {M : XM} : UpdS M M := ⟨rfl, rfl, rfl, rfl, rfl, fun _ _ _ => rfl⟩
theorem UpdS.pi {M N : XM} {a i : Nat} {v : Int32} (h : UpdS M N) (h1 : a = 268 ∨ (289 ≤ a ∧ a < 296)) : UpdS M (xpi N a i v) :=
  ⟨h.1, h.2.1, h.2.2.1, h.2.2.2.1, h.2.2.2.2.1, fun b hb hc => (xi_row (by omega)).trans (h.2.2.2.2.2 b hb hc)⟩
theorem UpdS.tr {M N K : XM} (h : UpdS M N) (g : UpdS N K) : UpdS M K :=
  ⟨g.1.trans h.1, g.2.1.trans h.2.1, g.2.2.1.trans h.2.2.1, g.2.2.2.1.trans h.2.2.2.1, g.2.2.2.2.1.trans h.2.2.2.2.1, fun b hb hc => (g.2.2.2.2.2 b hb hc).trans (h.2.2.2.2.2 b hb hc)⟩
def CtR (M : XM) (p : Nat) (pr : PR) : Prop := RefAt M ∧ RepR M p pr ∧ p < 2
theorem UpdS.ref {M N : XM} (h : UpdS M N) (hA : RefAt M) : RefAt N := by
  unfold RefAt at *
  rw [h.1, h.2.2.1, h.2.2.2.1]
  exact hA
theorem UpdS.ctx {M N : XM} {p : Nat} {pr : PR} (h : UpdS M N) (c : CtR M p pr) : CtR N p pr :=
  ⟨h.ref c.1, c.2.1.congr fun b h1 h2 => h.2.2.2.2.2 b (by omega) (by omega), c.2.2⟩
def ec5 (e : Nat) : Nat := if e = 0 then 5 else e
def OkT (M : XM) (g : XP) (r : SR) : Prop := match r with
  | .inl s => ∃ N, g = rV N ∧ UpdS M N ∧ StR N s
  | .inr e => ∃ N, g = rV N ∧ UpdS M N ∧ ec5 e < 10 ∧ xi N 268 0 = nI (ec5 e)
def Bad5 (M : XM) (g : XP) : Prop := ∃ N, g = rV N ∧ UpdS M N ∧ xi N 268 0 = 5
theorem OkT.tr {M N : XM} {g : XP} {r : SR} (h : UpdS M N) (k : OkT N g r) : OkT M g r := by
  unfold OkT at *
  split at k
  · obtain ⟨K, k1, k2, k3⟩ := k
    exact ⟨K, k1, h.tr k2, k3⟩
  · obtain ⟨K, k1, k2, k3⟩ := k
    exact ⟨K, k1, h.tr k2, k3⟩
theorem OkT.cV {M : XM} {g : XP} {r : SR} (k : OkT M g r) : OkT M (cV g fun M2 => some (.inl none, M2)) r := by
  unfold OkT at *
  split at k
  · obtain ⟨K, k1, k2, k3⟩ := k
    exact ⟨K, by rw [k1]; rfl, k2, k3⟩
  · obtain ⟨K, k1, k2⟩ := k
    exact ⟨K, by rw [k1]; rfl, k2⟩
theorem i8 (f h : Nat) : 8 * nI f + nI h = nI (8 * f + h) := by rw [show (8 : Int32) = nI 8 from rfl, pk_mul, nI_add]
section PRM
variable {M : XM} {p : Nat} {pr : PR} {vs : Nat → Int32} {r : Int32} {t : List FR} {fr : FR} {m n : Nat} {x y v : Int32} {st : List Int32}
theorem rv27 (hA : RefAt M) {g : XP} : rv M 27 268 g = g := by
  have hz := hA.1
  exact rv_e (by omega) hA.2.1
theorem gC (hA : RefAt M) {j : Nat} {F : Int32 → XP} : gI M 27 268 j F = F (xi M 268 j) := by
  have hz := hA.1
  exact gI_e (by omega) hA.2.1
theorem uC (hA : RefAt M) {j : Nat} {v : Int32} {F : XM → XP} : uI M 27 268 j v F = F (xpi M 268 j v) := by
  have hz := hA.1
  exact uI_e (by omega) hA.2.1
theorem StR.stk (h : StR M (vs, fr :: t, r)) : t.length < 8 := by have := h.2.2.1; simp at this; omega
theorem s_R_push (hA : RefAt M) (h : StR M (vs, fr :: t, r)) (v : Int32) : OkT M (g_R_push 268 v M) (pushV vs r t fr v) := by
  obtain ⟨m, n, x, y, st⟩ := fr
  have hz := hA.1
  have ht := h.stk
  obtain ⟨h0, h1, h2, h3, ⟨⟨f1, f2, f3, f4, f5, f6, f7⟩, h4⟩, h5⟩ := h
  simp only [List.length_cons] at f1 f2 f3 f4 f5 f6 f7 h1 h2 h3
  unfold g_R_push pushV
  rw [gC hA, h3, nI_pred, gR_e (by omega) hA.2.1 (r27 hA).1, aI_e (by omega) (r27 hA).2 ht (by decide), f5]
  simp only
  by_cases hl : st.length < 8
  · have hA1 : RefAt (xpi M 295 (8 * t.length + st.length) v) := hA
    have hz1 := hA1.1
    have g2 : xi (xpi M 295 (8 * t.length + st.length) v) 294 t.length = nI st.length := by rw [xi_ne1 (by decide)]; exact f5
    rw [if_pos (show ¬ nI st.length = 8 from fun e => by have := (nI_eq (b := 8) (by omega) (by decide)).mp e; omega), if_pos hl, gR_e (by omega) hA.2.1 (r28 hA).1, gR_e (by omega) hA.2.1 (r27 hA).1, aI_e (by omega) (r27 hA).2 ht (by decide), f5, i8, sI_e (by omega) (r28 hA).2 (by omega) (by decide), gR_e (by omega) hA1.2.1 (r27 hA1).1, aI_e (by omega) (r27 hA1).2 ht (by decide), g2, nI_1, sI_e (by omega) (r27 hA1).2 ht (by decide)]
    refine ⟨_, rfl, (UpdS.rf.pi (by omega)).pi (by omega), ?_, fun k hk => ?_, h2, ?_, ⟨⟨?_, ?_, ?_, ?_, ?_, by simp only [List.length_cons]; omega, ?_, ?_⟩, h4.congr (fun a j ha1 ha2 hj => ?_) fun j hj => ?_⟩, fun e => by simp at e⟩
    · simp (disch := decide) only [xi_ne1]; exact h0
    · simp (disch := decide) only [xi_ne1]; exact h1 k hk
    · simp (disch := decide) only [xi_ne1]; exact h3
    · simp (disch := decide) only [xi_ne1]; exact f1
    · simp (disch := decide) only [xi_ne1]; exact f2
    · simp (disch := decide) only [xi_ne1]; exact f3
    · simp (disch := decide) only [xi_ne1]; exact f4
    · rw [xi_eq]; rfl
    · rw [xi_ne1 (by decide), xi_eq]
    · exact f7.congr fun j hj1 hj2 => by rw [xi_ne1 (by decide), xi_no (by omega)]
    · rw [xi_no (by omega), xi_no (by omega)]
    · rw [xi_no (by omega), xi_no (by omega)]
  · rw [if_neg (show ¬ ¬ nI st.length = 8 from fun e => e (by rw [show st.length = 8 by omega]; rfl)), if_neg hl, uC hA]
    exact ⟨_, rfl, UpdS.rf.pi (by omega), by decide, xi_eq _ _ _ _⟩
theorem s_R_popB (hA : RefAt M) (h : xi M 268 0 = 5) : g_R_pop 268 M = rI 0 (xpi M 268 0 5) := by
  unfold g_R_pop g_R_pop_23
  rw [gC hA, gC hA, h, if_pos (by decide), gC hA, h, if_neg (by decide), gC hA, h, uC hA]
theorem s_R_pop0 (hA : RefAt M) (h : StR M (vs, (m, n, x, y, []) :: t, r)) : g_R_pop 268 M = rI 0 (xpi M 268 0 5) := by
  have hz := hA.1
  have ht := h.stk
  obtain ⟨h0, h1, h2, h3, ⟨⟨f1, f2, f3, f4, f5, f6, f7⟩, h4⟩, h5⟩ := h
  simp only [List.length_cons] at h3
  unfold g_R_pop g_R_pop_23
  rw [gC hA, gC hA, h0, if_neg (by decide), h3, nI_pred, gR_e (by omega) hA.2.1 (r27 hA).1, aI_e (by omega) (r27 hA).2 ht (by decide), show xi M 294 t.length = 0 from f5, if_neg (fun h => h rfl), gC hA, h0, if_pos (by decide), uC hA]
theorem s_R_pop (hA : RefAt M) (h : StR M (vs, (m, n, x, y, v :: st) :: t, r)) : ∃ N, g_R_pop 268 M = rI v N ∧ UpdS M N ∧ StR N (vs, (m, n, x, y, st) :: t, r) := by
  have hz := hA.1
  have ht := h.stk
  obtain ⟨h0, h1, h2, h3, ⟨⟨f1, f2, f3, f4, f5, f6, f7, f8⟩, h4⟩, h5⟩ := h
  simp only [List.length_cons] at f1 f2 f3 f4 f5 f6 f7 f8 h1 h2 h3
  have hA1 : RefAt (xpi M 294 t.length (nI st.length)) := hA
  have hz1 := hA1.1
  refine ⟨xpi M 294 t.length (nI st.length), ?_, UpdS.rf.pi (by omega), ?_, fun k hk => ?_, h2, ?_, ⟨⟨?_, ?_, ?_, ?_, ?_, by simp only; omega, ?_⟩, h4.congr (fun a j ha1 ha2 hj => ?_) fun j hj => ?_⟩, fun e => by simp at e⟩
  · unfold g_R_pop
    rw [gC hA, gC hA, h0, if_neg (by decide), h3, nI_pred, gR_e (by omega) hA.2.1 (r27 hA).1, aI_e (by omega) (r27 hA).2 ht (by decide), f5, if_pos (show ¬ nI (st.length + 1) = 0 from fun e => by have := (nI_eq (b := 0) (by omega) (by decide)).mp e; omega), gR_e (by omega) hA.2.1 (r27 hA).1, aI_e (by omega) (r27 hA).2 ht (by decide), f5, nI_pred, sI_e (by omega) (r27 hA).2 ht (by decide), gR_e (by omega) hA1.2.1 (r28 hA1).1, gR_e (by omega) hA1.2.1 (r27 hA1).1, aI_e (by omega) (r27 hA1).2 ht (by decide), xi_eq, i8, aI_e (by omega) (r28 hA1).2 (by omega) (by decide), xi_ne1 (by decide), f7]
  · rw [xi_ne1 (by decide)]; exact h0
  · rw [xi_ne1 (by decide)]; exact h1 k hk
  · rw [xi_ne1 (by decide)]; exact h3
  · rw [xi_ne1 (by decide)]; exact f1
  · rw [xi_ne1 (by decide)]; exact f2
  · rw [xi_ne1 (by decide)]; exact f3
  · rw [xi_ne1 (by decide)]; exact f4
  · rw [xi_eq]
  · exact f8.congr fun j hj1 hj2 => by rw [xi_ne1 (by decide)]
  · rw [xi_no (by omega)]
  · rw [xi_ne1 (by decide)]
theorem OkT.take (c : CtR M p pr) (h : StR M (vs, (m, n, x, y, st) :: t, r)) {K : Int32 → XM → XP} {k : Int32 → List Int32 → SR} (hk : ∀ v st' N, CtR N p pr → StR N (vs, (m, n, x, y, st') :: t, r) → OkT N (K v N) (k v st')) (hb : ∀ N, CtR N p pr → UpdS M N → xi N 268 0 = 5 → Bad5 N (K 0 N)) : OkT M (cI (g_R_pop 268 M) K) (popV st k) := by
  cases st with
  | nil =>
    rw [s_R_pop0 c.1 h, cI_e]
    have hU : UpdS M (xpi M 268 0 5) := UpdS.rf.pi (by omega)
    obtain ⟨N, n1, n2, n3⟩ := hb _ (hU.ctx c) hU (xi_eq _ _ _ _)
    exact ⟨N, n1, hU.tr n2, by decide, n3⟩
  | cons v st' =>
    obtain ⟨N, n1, n2, n3⟩ := s_R_pop c.1 h
    rw [n1, cI_e]
    exact OkT.tr n2 (hk v st' N (n2.ctx c) n3)
theorem Bad5.take (c : CtR M p pr) (h : xi M 268 0 = 5) {K : Int32 → XM → XP} (hb : ∀ N, CtR N p pr → UpdS M N → xi N 268 0 = 5 → Bad5 N (K 0 N)) : Bad5 M (cI (g_R_pop 268 M) K) := by
  rw [s_R_popB c.1 h, cI_e]
  have hU : UpdS M (xpi M 268 0 5) := UpdS.rf.pi (by omega)
  obtain ⟨N, n1, n2, n3⟩ := hb _ (hU.ctx c) hU (xi_eq _ _ _ _)
  exact ⟨N, n1, hU.tr n2, n3⟩
theorem s_R_begin (hA : RefAt M) {fs : List FR} (h : StR M (vs, fs, r)) (m : Nat) (x y : Int32) : OkT M (g_R_begin 268 (nI m) x y M) (beginV vs r fs m x y) := by
  have hz := hA.1
  obtain ⟨h0, h1, h2, h3, h4, h5⟩ := h
  simp only at h1 h2 h3 h4
  unfold g_R_begin beginV
  rw [gC hA, h3]
  by_cases hl : fs.length < 8
  · generalize hd : fs.length = d at *
    have hA1 : RefAt (xpi M 290 d (nI m)) := hA
    have hA2 : RefAt (xpi (xpi M 290 d (nI m)) 291 d 0) := hA
    have hA3 : RefAt (xpi (xpi (xpi M 290 d (nI m)) 291 d 0) 292 d x) := hA
    have hA4 : RefAt (xpi (xpi (xpi (xpi M 290 d (nI m)) 291 d 0) 292 d x) 293 d y) := hA
    have hA5 : RefAt (xpi (xpi (xpi (xpi (xpi M 290 d (nI m)) 291 d 0) 292 d x) 293 d y) 294 d 0) := hA
    have hz1 := hA1.1
    have hz2 := hA2.1
    have hz3 := hA3.1
    have hz4 := hA4.1
    have hz5 := hA5.1
    have g1 : xi (xpi M 290 d (nI m)) 268 22 = nI d := by simp (disch := decide) only [xi_ne1]; exact h3
    have g2 : xi (xpi (xpi M 290 d (nI m)) 291 d 0) 268 22 = nI d := by simp (disch := decide) only [xi_ne1]; exact h3
    have g3 : xi (xpi (xpi (xpi M 290 d (nI m)) 291 d 0) 292 d x) 268 22 = nI d := by simp (disch := decide) only [xi_ne1]; exact h3
    have g4 : xi (xpi (xpi (xpi (xpi M 290 d (nI m)) 291 d 0) 292 d x) 293 d y) 268 22 = nI d := by simp (disch := decide) only [xi_ne1]; exact h3
    have g5 : xi (xpi (xpi (xpi (xpi (xpi M 290 d (nI m)) 291 d 0) 292 d x) 293 d y) 294 d 0) 268 22 = nI d := by simp (disch := decide) only [xi_ne1]; exact h3
    rw [if_pos (show ¬ nI d = 8 from fun e => by have := (nI_eq (b := 8) (by omega) (by decide)).mp e; omega), if_pos hl, gR_e (by omega) hA.2.1 (r23 hA).1, gC hA, h3, sI_e (by omega) (r23 hA).2 hl (by decide), gR_e (by omega) hA1.2.1 (r24 hA1).1, gC hA1, g1, sI_e (by omega) (r24 hA1).2 hl (by decide), gR_e (by omega) hA2.2.1 (r25 hA2).1, gC hA2, g2, sI_e (by omega) (r25 hA2).2 hl (by decide), gR_e (by omega) hA3.2.1 (r26 hA3).1, gC hA3, g3, sI_e (by omega) (r26 hA3).2 hl (by decide),
      gR_e (by omega) hA4.2.1 (r27 hA4).1, gC hA4, g4, sI_e (by omega) (r27 hA4).2 hl (by decide), gC hA5, g5, nI_1, uC hA5]
    refine ⟨_, rfl, (((((UpdS.rf.pi (by omega)).pi (by omega)).pi (by omega)).pi (by omega)).pi (by omega)).pi (by omega), ?_, fun k hk => ?_, by simp only [List.length_cons]; omega, by rw [xi_eq]; simp only [List.length_cons, hd], ⟨⟨?_, ?_, ?_, ?_, ?_, Nat.zero_le _, trivial⟩, h4.congr (fun a j ha1 ha2 hj => ?_) fun j hj => ?_⟩, fun e => by simp at e⟩
    · rw [xi_no (by omega)]; simp (disch := decide) only [xi_ne1]; exact h0
    · simp (disch := decide) only [xi_ne1]; exact h1 k hk
    · rw [hd]; simp (disch := decide) only [xi_ne1, xi_eq]
    · rw [hd]; simp (disch := decide) only [xi_ne1, xi_eq]; rfl
    · rw [hd]; simp (disch := decide) only [xi_ne1, xi_eq]
    · rw [hd]; simp (disch := decide) only [xi_ne1, xi_eq]
    · rw [hd]; simp (disch := decide) only [xi_ne1, xi_eq]; rfl
    · rw [hd] at hj; simp (disch := omega) only [xi_no]
    · simp (disch := decide) only [xi_ne1]
  · rw [if_neg (show ¬ ¬ nI fs.length = 8 from fun e => e (by rw [show fs.length = 8 by omega]; rfl)), if_neg hl, uC hA]
    exact ⟨_, rfl, UpdS.rf.pi (by omega), by decide, xi_eq _ _ _ _⟩
theorem div_m1 (a : Int32) : a / (-1) = 0 - a := by
  rw [← Int32.toInt_inj, Int32.toInt_div, Int32.toInt_sub, show (-1 : Int32).toInt = -1 by decide, show (0 : Int32).toInt = 0 by decide, Int.tdiv_neg, Int.tdiv_one, Int.zero_sub]
theorem s_R_arith (c : CtR M p pr) (h : StR M (vs, (m, n, x, y, st) :: t, r)) {w : Int32} (hw : w = 5 ∨ w = 6 ∨ w = 7 ∨ w = 8) : OkT M (g_R_arithmetic 268 w M) (calcV vs r t (m, n, x, y, st) w) := by
  unfold g_R_arithmetic calcV
  rw [rv27 c.1]
  refine OkT.take c h (fun b st1 M1 c1 h1 => ?_) (fun M1 c1 _ h1 => ?_)
  · rw [rv27 c1.1]
    refine OkT.take c1 h1 (fun a st2 M2 c2 h2 => ?_) (fun M2 c2 _ h2 => ?_)
    · rw [gC c2.1, h2.1, if_pos (by decide)]
      rcases hw with rfl | rfl | rfl | rfl
      · unfold g_R_arithmetic_34
        rw [if_pos (by decide), if_neg (fun h => h rfl), rv27 c2.1, if_neg (by simp), if_pos rfl]
        exact OkT.cV (s_R_push c2.1 h2 _)
      · unfold g_R_arithmetic_34
        rw [if_pos (by decide), if_pos (by decide), if_neg (fun h => h rfl), rv27 c2.1, if_neg (by simp), if_neg (by decide), if_pos rfl]
        exact OkT.cV (s_R_push c2.1 h2 _)
      · unfold g_R_arithmetic_34
        rw [if_pos (by decide), if_pos (by decide), if_pos (by decide), if_neg (fun h => h rfl), rv27 c2.1, if_neg (by simp), if_neg (by decide), if_neg (by decide), if_pos rfl]
        exact OkT.cV (s_R_push c2.1 h2 _)
      · rw [if_neg (fun h => h rfl)]
        by_cases hb : b = 0
        · rw [if_neg (fun h => h hb), if_pos ⟨rfl, hb⟩, uC c2.1]
          exact ⟨_, rfl, UpdS.rf.pi (by omega), by decide, xi_eq _ _ _ _⟩
        · unfold g_R_arithmetic_34
          have hbn : ¬ ((8 : Int32) = 8 ∧ b = 0) := fun h => hb h.2
          rw [if_pos hb, if_pos (by decide), if_pos (by decide), if_pos (by decide), if_neg hbn]
          by_cases hb1 : b = -1
          · rw [if_neg (fun h => h hb1), rv27 c2.1, if_neg (by decide), if_neg (by decide), if_neg (by decide), hb1, div_m1]
            exact OkT.cV (s_R_push c2.1 h2 _)
          · rw [if_pos hb1, if_neg hb, rv27 c2.1, if_neg (by decide), if_neg (by decide), if_neg (by decide)]
            exact OkT.cV (s_R_push c2.1 h2 _)
    · rw [gC c2.1, h2, if_neg (by decide)]
      exact ⟨_, rfl, UpdS.rf, h2⟩
  · rw [rv27 c1.1]
    refine Bad5.take c1 h1 fun M2 c2 _ h2 => ?_
    rw [gC c2.1, h2, if_neg (by decide)]
    exact ⟨_, rfl, UpdS.rf, h2⟩
theorem s_R_call (c : CtR M p pr) (hW : WF pr) (h : StR M (vs, (m, n, x, y, st) :: t, r)) {k : Nat} {d : MB} (hk : pr.2[k]? = some d) : OkT M (g_R_call 268 (nI p) (nI k) M) (invV pr vs r t (m, n, x, y, st) k) := by
  have hz := c.1.1
  have hp := c.2.2
  have h30 := c.2.1.2.2.1
  have hk' : k < pr.2.length := (List.getElem?_eq_some_iff.mp hk).1
  have hd := (hW.2 d (List.mem_of_getElem? hk)).2.1
  have hb : ∀ {N : XM} (cN : CtR N p pr) {st' : List Int32} (x' y' : Int32), StR N (vs, (m, n, x, y, st') :: t, r) → OkT N (g_R_call_39 268 (nI k) y' x' N) (beginV vs r ((m, n, x, y, st') :: t) k x' y') := by
    intro N cN st' x' y' hs
    unfold g_R_call_39
    rw [gC cN.1, hs.1, if_neg (fun h => h rfl), rv27 cN.1]
    exact OkT.cV (s_R_begin cN.1 hs k x' y')
  have hbb : ∀ {N : XM} (cN : CtR N p pr) (x' y' : Int32), xi N 268 0 = 5 → Bad5 N (g_R_call_39 268 (nI k) y' x' N) := by
    intro N cN x' y' h5
    unfold g_R_call_39
    rw [gC cN.1, h5, if_pos (by decide)]
    exact ⟨_, rfl, UpdS.rf, h5⟩
  unfold g_R_call invV
  rw [gR_e (by omega) c.1.2.1 (r9 c.1).1, i30, aI_e (by omega) (r9 c.1).2 (by omega) (by decide), (c.2.1.2.2.2.2.2 k d hk).2.2.1, hk]
  simp only
  rcases hd with e | e | e | e
  · rw [if_pos (by rw [e]; decide), if_neg (by rw [e]; decide), if_neg (by rw [e]; decide)]
    unfold g_R_call_25
    rw [if_pos (by rw [e]; decide)]
    exact hb c 0 0 h
  · rw [if_pos (by rw [e]; decide), if_neg (by rw [e]; decide), if_neg (by rw [e]; decide)]
    unfold g_R_call_25
    rw [if_pos (by rw [e]; decide)]
    exact hb c 0 0 h
  · rw [if_pos (by rw [e]; decide), if_neg (by rw [e]; decide), if_pos e]
    unfold g_R_call_25
    rw [if_neg (by rw [e]; decide), rv27 c.1]
    exact OkT.take c h (fun x' st1 N1 c1 h1 => hb c1 x' 0 h1) fun N1 c1 _ h1 => hbb c1 0 0 h1
  · rw [if_neg (by rw [e]; decide), if_pos e, rv27 c.1]
    refine OkT.take c h (fun y' st1 N1 c1 h1 => ?_) fun N1 c1 _ h1 => ?_
    · unfold g_R_call_25
      rw [if_neg (by rw [e]; decide), rv27 c1.1]
      exact OkT.take c1 h1 (fun x' st2 N2 c2 h2 => hb c2 x' y' h2) fun N2 c2 _ h2 => hbb c2 0 y' h2
    · unfold g_R_call_25
      rw [if_neg (by rw [e]; decide), rv27 c1.1]
      exact Bad5.take c1 h1 fun N2 c2 _ h2 => hbb c2 0 0 h2
end PRM
