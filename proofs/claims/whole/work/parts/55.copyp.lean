/-! the reference copies pools -/
def lim (b : Nat) : Nat := if b ≤ 270 then 1 else if b = 271 then 6 else if b ≤ 274 then 120 else if b ≤ 279 then 30 else 600
def Up1 (M N : XM) : Prop := xz N = xz M ∧ xu N = xu M ∧ xt N = xt M ∧ xr N = xr M ∧ xj N = xj M ∧ (∀ b, b < 269 ∨ 282 ≤ b → xi N b = xi M b) ∧ ∀ b j, j < lim b → xi N b j = xi M b j
theorem Up1.rf {M : XM} : Up1 M M := ⟨rfl, rfl, rfl, rfl, rfl, fun _ _ => rfl, fun _ _ _ => rfl⟩
theorem Up1.tr {M N K : XM} (h : Up1 M N) (g : Up1 N K) : Up1 M K :=
  ⟨g.1.trans h.1, g.2.1.trans h.2.1, g.2.2.1.trans h.2.2.1, g.2.2.2.1.trans h.2.2.2.1, g.2.2.2.2.1.trans h.2.2.2.2.1, fun b hb => (g.2.2.2.2.2.1 b hb).trans (h.2.2.2.2.2.1 b hb), fun b j hj => (g.2.2.2.2.2.2 b j hj).trans (h.2.2.2.2.2.2 b j hj)⟩
theorem Up1.pi {M N : XM} {a i : Nat} {v : Int32} (h : Up1 M N) (h1 : 269 ≤ a) (h2 : a < 282) (h3 : lim a ≤ i) : Up1 M (xpi N a i v) :=
  ⟨h.1, h.2.1, h.2.2.1, h.2.2.2.1, h.2.2.2.2.1, fun b hb => (xi_row (by omega)).trans (h.2.2.2.2.2.1 b hb), fun b j hj => (xi_no (by
    by_cases e : b = a
    · subst e; exact Or.inr (by omega)
    · exact Or.inl e)).trans (h.2.2.2.2.2.2 b j hj)⟩
theorem Up1.upd {M N : XM} (h : Up1 M N) : Upd 269 282 M N := ⟨h.1, h.2.1, h.2.2.1, h.2.2.2.1, h.2.2.2.2.1, h.2.2.2.2.2.1⟩
theorem RepR.congr0 {M N : XM} {pr : PR} (h : RepR M 0 pr) (u : Up1 M N) : RepR N 0 pr := by
  have e := u.2.2.2.2.2.2
  obtain ⟨h1, h2, h3, h4, h5, h6⟩ := h
  refine ⟨h1, by rw [e _ _ (by decide)]; exact h2, h3, by rw [e _ _ (by decide)]; exact h4, fun c cl hc => ?_, fun m b hm => ?_⟩
  · have hcl : c < pr.1.length := (List.getElem?_eq_some_iff.mp hc).1
    obtain ⟨g1, g2, g3⟩ := h5 c cl hc
    refine ⟨g1, by rw [e _ _ (show _ < 6 by omega)]; exact g2, fun j q hq => ?_⟩
    have hjl : j < cl.length := (List.getElem?_eq_some_iff.mp hq).1
    rw [e 272 _ (show _ < 120 by omega), e 273 _ (show _ < 120 by omega), e 274 _ (show _ < 120 by omega)]
    exact g3 j q hq
  · have hml : m < pr.2.length := (List.getElem?_eq_some_iff.mp hm).1
    obtain ⟨g1, g2, g3, g4, g5, g6, g7⟩ := h6 m b hm
    rw [e 275 _ (show _ < 30 by omega), e 276 _ (show _ < 30 by omega), e 277 _ (show _ < 30 by omega), e 278 _ (show _ < 30 by omega), e 279 _ (show _ < 30 by omega)]
    refine ⟨g1, g2, g3, g4, g5, g6, fun k i hk => ?_⟩
    have hkl : k < b.2.2.2.2.length := (List.getElem?_eq_some_iff.mp hk).1
    rw [e 280 _ (show _ < 600 by omega), e 281 _ (show _ < 600 by omega)]
    exact g7 k i hk
/-- what copying needs -/
def CtV (M : XM) (pr : PR) : Prop := CtQ M pr ∧ KrD M pr ∧ MrD M pr ∧ NumR M pr ∧ ∀ k, k < 100 → (uB pr k = true ∨ eB pr k = true) → xi M 287 k = nmV pr k
theorem Up1.ctv {M N : XM} {pr : PR} (u : Up1 M N) (c : CtV M pr) : CtV N pr := by
  have e := u.2.2.2.2.2.1
  refine ⟨⟨RefAt.up u.upd c.1.1, c.1.2.congr0 u⟩, c.2.1.up (e _ (by omega)), c.2.2.1.up (e _ (by omega)), ⟨fun m hm => by rw [e _ (by omega)]; exact c.2.2.2.1.1 m hm, fun m hm => by rw [e _ (by omega)]; exact c.2.2.2.1.2.1 m hm, fun d cl j hd hj => by rw [e _ (by omega)]; exact c.2.2.2.1.2.2 d cl j hd hj⟩, fun k hk h => by rw [e _ (by omega)]; exact c.2.2.2.2 k hk h⟩
def PoolR (M : XM) (k : Nat) (acc : List CT) : Prop := acc.length ≤ 20 ∧ xi M 271 (6 + k) = nI acc.length ∧ ∀ (j : Nat) (q : CT), acc[j]? = some q → xi M 272 (120 + 20 * k + j) = q.1 ∧ xi M 273 (120 + 20 * k + j) = q.2.1 ∧ xi M 274 (120 + 20 * k + j) = q.2.2
theorem base1 {M : XM} (k : Nat) : g_R_base 1 (nI k) M = rI (nI (120 + 20 * k)) M := (s_R_base (M := M) 1 k).trans (by rw [show 120 * 1 + 20 * k = 120 + 20 * k by omega])
section PCP
variable {M : XM} {pr : PR} {A : List (List CT)} {B : List MB}
theorem pool_app (h : RepR M 1 (A, B)) {acc : List CT} (hp : PoolR M A.length acc) (hk : A.length < 6) (hl : acc.length < 20) (a b c : Int32) :
    PoolR (xpi (xpi (xpi (xpi M 272 (120 + 20 * A.length + acc.length) a) 273 (120 + 20 * A.length + acc.length) b) 274 (120 + 20 * A.length + acc.length) c) 271 (6 + A.length) (nI (acc.length + 1))) A.length (acc ++ [(a, b, c)]) ∧ RepR (xpi (xpi (xpi (xpi M 272 (120 + 20 * A.length + acc.length) a) 273 (120 + 20 * A.length + acc.length) b) 274 (120 + 20 * A.length + acc.length) c) 271 (6 + A.length) (nI (acc.length + 1))) 1 (A, B) := by
  obtain ⟨p1, p2, p3⟩ := hp
  obtain ⟨h1, h2, h3, h4, h5, h6⟩ := h
  refine ⟨⟨by simp; omega, by rw [xi_eq]; simp, fun j q hq => ?_⟩, h1, by simp (disch := decide) only [xi_ne1]; exact h2, h3, by simp (disch := decide) only [xi_ne1]; exact h4, fun d dl hd => ?_, fun m b hm => by simp (disch := decide) only [xi_ne1]; exact h6 m b hm⟩
  · simp (disch := decide) only [xi_ne1]
    rcases snocC hq with ⟨hlt, h⟩ | ⟨rfl, rfl⟩
    · simp (disch := omega) only [xi_no]
      exact p3 j q h
    · rw [xi_eq, xi_eq, xi_eq]; exact ⟨rfl, rfl, rfl⟩
  · have hdl : d < A.length := (List.getElem?_eq_some_iff.mp hd).1
    obtain ⟨g1, g2, g3⟩ := h5 d dl hd
    refine ⟨g1, by rw [xi_no (by omega)]; simp (disch := decide) only [xi_ne1]; exact g2, fun j q hq => ?_⟩
    have hjl : j < dl.length := (List.getElem?_eq_some_iff.mp hq).1
    simp (disch := decide) only [xi_ne1]
    simp (disch := omega) only [xi_no]
    exact g3 j q hq
theorem pool_end (h : RepR M 1 (A, B)) {acc : List CT} (hp : PoolR M A.length acc) (hk : A.length < 6) : RepR (xpi M 269 1 (nI (A.length + 1))) 1 (A ++ [acc], B) := by
  obtain ⟨p1, p2, p3⟩ := hp
  obtain ⟨h1, h2, h3, h4, h5, h6⟩ := h
  refine ⟨by simp; omega, by rw [xi_eq]; simp, h3, by rw [xi_ne1 (by decide)]; exact h4, fun d dl hd => ?_, fun m b hm => by simp (disch := decide) only [xi_ne1]; exact h6 m b hm⟩
  simp (disch := decide) only [xi_ne1]
  rcases snocC hd with ⟨hlt, h⟩ | ⟨rfl, rfl⟩
  · exact h5 d dl h
  · exact ⟨p1, p2, p3⟩
theorem nm_of (hz : Sz pr) (hW : WF pr) (hC : Clo pr) {x y : Nat} {cl : List CT} {q : CT} (c : CtV M pr) (hcl : pr.1[x]? = some cl) (hq : cl[y]? = some q) (hk : KC pr x y) :
    (q.1 = 0 ∧ nFirst pr x q = q.2.1) ∨ (q.1 = 1 ∧ ∃ n, n < 100 ∧ q.2.1 = nI n ∧ xi M 287 n = nFirst pr x q) ∨ (q.1 = 2 ∧ ∃ n, n < 6 ∧ q.2.1 = nI n ∧ xi M 284 n = nFirst pr x q) ∨ ((q.1 = 3 ∨ q.1 = 4) ∧ ∃ j1 j2, j1 < 20 ∧ j2 < 20 ∧ q.2.1 = nI j1 ∧ q.2.2 = nI j2 ∧ xi M 286 (20 * x + j1) = nFirst pr x q ∧ xi M 286 (20 * x + j2) = (ncV pr x q).2.2) := by
  have h6 := hz.1
  have hx : x < pr.1.length := (List.getElem?_eq_some_iff.mp hcl).1
  have hl := hz.2.2.1 cl (List.mem_of_getElem? hcl)
  have hy : y < cl.length := (List.getElem?_eq_some_iff.mp hq).1
  rcases hW.1 cl (List.mem_of_getElem? hcl) q (List.mem_of_getElem? hq) with e | ⟨e, k, hk', ek⟩ | ⟨e, k, hk', ek⟩ | ⟨e, -⟩
  · refine Or.inl ⟨e, ?_⟩
    unfold nFirst
    rw [if_neg (by rw [e]; decide), if_neg (by rw [e]; decide), if_neg (by rw [e]; decide)]
  · refine Or.inr (Or.inl ⟨e, k, hk', ek, ?_⟩)
    unfold nFirst
    rw [if_pos e, ek, nI_clamp (by omega)]
    exact c.2.2.2.2 k hk' (Or.inl (uB_t.mpr ⟨x, y, cl, q, hcl, hq, hk, e, ek⟩))
  · refine Or.inr (Or.inr (Or.inl ⟨e, k, by omega, ek, ?_⟩))
    unfold nFirst
    rw [if_neg (by rw [e]; decide), if_pos e, ek, nI_clamp (by omega)]
    exact c.2.2.2.1.2.1 k hk'
  · obtain ⟨j1, j2, l1, l2, ej1, ej2, -⟩ := two_const hW (List.mem_of_getElem? hcl) hl (List.mem_of_getElem? hq) e
    have k1 := KC.two hz hW hC (by omega) (by omega) hcl hq e hk (Or.inl ej1)
    have k2 := KC.two hz hW hC (by omega) (by omega) hcl hq e hk (Or.inr ej2)
    refine Or.inr (Or.inr (Or.inr ⟨e, j1, j2, by omega, by omega, ej1, ej2, ?_, ?_⟩))
    · unfold nFirst
      rw [if_neg (by rcases e with e | e <;> rw [e] <;> decide), if_neg (by rcases e with e | e <;> rw [e] <;> decide), if_pos e, ej1, nI_clamp (by omega), c.2.2.2.1.2.2 x cl j1 hcl l1]
      unfold num
      rw [if_pos (kQ_t.mpr k1)]
    · show _ = if _ then _ else _
      rw [if_pos e, ej2, nI_clamp (by omega), c.2.2.2.1.2.2 x cl j2 hcl l2]
      unfold num
      rw [if_pos (kQ_t.mpr k2)]
theorem s_R_cp (hW : WF pr) (hC : Clo pr) {x : Nat} {cl : List CT} (hcl : pr.1[x]? = some cl) (hA : A.length < 6) : ∀ (t : List CT) (y : Nat) (acc : List CT) (M : XM), CtV M pr → RepR M 1 (A, B) → PoolR M A.length acc → y ≤ cl.length → cl.drop y = t → acc.length ≤ y → ∀ n, t.length < n →
    ∃ N, g_R_copyPool_23 n 268 (nI x) (nI (6 + A.length)) (nI (20 * x + y)) M = rV N ∧ Up1 M N ∧ RepR N 1 (A ++ [acc ++ bC pr x t y], B) := by
  intro t
  induction t with
  | nil =>
    intro y acc M c hR hp hy hd ha n hn
    obtain ⟨n', rfl⟩ : ∃ n', n = n' + 1 := ⟨n - 1, by omega⟩
    have hlen := dropN hd hy
    have hz := c.1.1.1
    have h6 := c.1.2.1
    have hx : x < pr.1.length := (List.getElem?_eq_some_iff.mp hcl).1
    obtain ⟨hl, g2, -⟩ := c.1.2.2.2.2.2.1 x cl hcl
    rw [show 6 * 0 + x = x by omega] at g2
    unfold g_R_copyPool_23
    rw [base0, cI_e, gR_e (by omega) c.1.1.2.1 (r3 c.1.1).1, aI_e (by omega) (r3 c.1.1).2 (by omega) (by decide), g2, nI_add, if_pos (nI_le (by omega) (by omega)), gR_e (by omega) c.1.1.2.1 (r1 c.1.1).1, show aI M 269 1 _ = _ from aI_e (i := 1) (by omega) (r1 c.1.1).2 (by decide) (by decide), hR.2.1]
    simp only
    rw [nI_1, show sI M 269 1 _ _ = _ from sI_e (i := 1) (by omega) (r1 c.1.1).2 (by decide) (by decide)]
    refine ⟨_, rfl, Up1.rf.pi (by omega) (by omega) (by decide), ?_⟩
    rw [show acc ++ bC pr x [] y = acc from List.append_nil _]
    exact pool_end hR hp hA
  | cons q t ih =>
    intro y acc M c hR hp hy hd ha n hn
    obtain ⟨n', rfl⟩ : ∃ n', n = n' + 1 := ⟨n - 1, by omega⟩
    obtain ⟨hq, hd', hyl⟩ := dropC hd
    have hz := c.1.1.1
    have h6 := c.1.2.1
    have hx : x < pr.1.length := (List.getElem?_eq_some_iff.mp hcl).1
    obtain ⟨hl, g2, g3⟩ := c.1.2.2.2.2.2.1 x cl hcl
    obtain ⟨q1, q2, q3⟩ := g3 y q hq
    rw [show 6 * 0 + x = x by omega] at g2
    rw [show 120 * 0 + 20 * x + y = 20 * x + y by omega] at q1 q2 q3
    simp only [List.length_cons] at hn
    unfold g_R_copyPool_23
    rw [base0, cI_e, gR_e (by omega) c.1.1.2.1 (r3 c.1.1).1, aI_e (by omega) (r3 c.1.1).2 (by omega) (by decide), g2, nI_add, if_neg (nI_ge (by omega) (by omega)), gR_e (by omega) c.1.1.2.1 (r17 c.1.1).1, aZ_e (by omega) (r17 c.1.1).2 (show 20 * x + y < 120 by omega) (by decide), c.2.2.1 x y (by omega) (by omega), nI_1]
    by_cases hk : kQ pr x y = true
    · have hkc := kQ_t.mp hk
      have hbc : bC pr x (q :: t) y = [ncV pr x q] ++ bC pr x t (y + 1) := by show (if _ then _ else _) ++ _ = _; rw [if_pos hk]
      obtain ⟨pa, pb⟩ := pool_app hR hp hA (show acc.length < 20 by omega) q.1 (nFirst pr x q) (ncV pr x q).2.2
      have hp2 := hp.2.1
      generalize hat : 120 + 20 * A.length + acc.length = at' at *
      have hU1 : Up1 M (xpi M 272 at' q.1) := Up1.rf.pi (by omega) (by omega) (show 120 ≤ _ by omega)
      have hU2 : Up1 M (xpi (xpi M 272 at' q.1) 273 at' (nFirst pr x q)) := hU1.pi (by omega) (by omega) (show 120 ≤ _ by omega)
      have hU3 : Up1 M (xpi (xpi (xpi M 272 at' q.1) 273 at' (nFirst pr x q)) 274 at' (ncV pr x q).2.2) := hU2.pi (by omega) (by omega) (show 120 ≤ _ by omega)
      have hU4 : Up1 M (xpi (xpi (xpi (xpi M 272 at' q.1) 273 at' (nFirst pr x q)) 274 at' (ncV pr x q).2.2) 271 (6 + A.length) (nI (acc.length + 1))) := hU3.pi (by omega) (by omega) (show 6 ≤ _ by omega)
      have c1 := hU1.ctv c
      have c2 := hU2.ctv c
      have c3 := hU3.ctv c
      have c4 := hU4.ctv c
      have z1 := c1.1.1.1
      have z2 := c2.1.1.1
      have z3 := c3.1.1.1
      obtain ⟨N, n1, n2, n3⟩ := ih (y + 1) (acc ++ [(q.1, nFirst pr x q, (ncV pr x q).2.2)]) _ c4 pb pa (by omega) hd' (by simp; omega) n' (by omega)
      have hfin : ∃ N, g_R_copyPool_23 n' 268 (nI x) (nI (6 + A.length)) (nI (20 * x + y + 1)) (xpi (xpi (xpi (xpi M 272 at' q.1) 273 at' (nFirst pr x q)) 274 at' (ncV pr x q).2.2) 271 (6 + A.length) (nI (acc.length + 1))) = rV N ∧ Up1 M N ∧ RepR N 1 (A ++ [acc ++ bC pr x (q :: t) y], B) := by
        refine ⟨N, n1, hU4.tr n2, ?_⟩
        rw [hbc, ← List.append_assoc]
        exact n3
      have e271 : xi (xpi (xpi (xpi M 272 at' q.1) 273 at' (nFirst pr x q)) 274 at' (ncV pr x q).2.2) 271 (6 + A.length) = nI acc.length := by simp (disch := decide) only [xi_ne1]; exact hp2
      have h208 : ∀ v, v = (ncV pr x q).2.2 → g_R_copyPool_208 (g_R_copyPool_23 n') 268 (nI x) (nI (6 + A.length)) (nI (20 * x + y)) 274 (nI at') v (xpi (xpi M 272 at' q.1) 273 at' (nFirst pr x q)) = g_R_copyPool_23 n' 268 (nI x) (nI (6 + A.length)) (nI (20 * x + y + 1)) (xpi (xpi (xpi (xpi M 272 at' q.1) 273 at' (nFirst pr x q)) 274 at' (ncV pr x q).2.2) 271 (6 + A.length) (nI (acc.length + 1))) := by
        intro v hv
        subst hv
        unfold g_R_copyPool_208
        rw [sI_e (by omega) (r6 c2.1.1).2 (show at' < 240 by omega) (by decide), gR_e (by omega) c3.1.1.2.1 (r3 c3.1.1).1, aI_e (by omega) (r3 c3.1.1).2 (show 6 + A.length < 12 by omega) (by decide), e271, nI_1, sI_e (by omega) (r3 c3.1.1).2 (show 6 + A.length < 12 by omega) (by decide), nI_1]
      have k1 : xi (xpi M 272 at' q.1) 272 (20 * x + y) = q.1 := by rw [xi_no (by omega)]; exact q1
      have k2 : xi (xpi (xpi M 272 at' q.1) 273 at' (nFirst pr x q)) 272 (20 * x + y) = q.1 := by rw [xi_ne1 (by decide)]; exact k1
      have k5 : xi (xpi M 272 at' q.1) 273 (20 * x + y) = q.2.1 := by rw [xi_ne1 (by decide)]; exact q2
      have k6 : xi (xpi (xpi M 272 at' q.1) 273 at' (nFirst pr x q)) 274 (20 * x + y) = q.2.2 := by rw [xi_ne1 (by decide), xi_ne1 (by decide)]; exact q3
      have hnm := nm_of c.1.2.sz hW hC c1 hcl hq hkc
      have hnm2 := nm_of c.1.2.sz hW hC c2 hcl hq hkc
      have h170 : ∀ v, v = nFirst pr x q → g_R_copyPool_170 (g_R_copyPool_23 n') 268 (nI x) (nI (6 + A.length)) (nI (20 * x + y)) (nI at') 273 (nI at') v (xpi M 272 at' q.1) = g_R_copyPool_23 n' 268 (nI x) (nI (6 + A.length)) (nI (20 * x + y + 1)) (xpi (xpi (xpi (xpi M 272 at' q.1) 273 at' (nFirst pr x q)) 274 at' (ncV pr x q).2.2) 271 (6 + A.length) (nI (acc.length + 1))) := by
        intro v hv
        subst hv
        unfold g_R_copyPool_170
        rw [sI_e (by omega) (r5 c1.1.1).2 (show at' < 240 by omega) (by decide), gR_e (by omega) c2.1.1.2.1 (r6 c2.1.1).1, gR_e (by omega) c2.1.1.2.1 (r4 c2.1.1).1, aI_e (by omega) (r4 c2.1.1).2 (show 20 * x + y < 240 by omega) (by decide), k2]
        rcases kd_lt (hW.1 cl (List.mem_of_getElem? hcl) q (List.mem_of_getElem? hq)) with ⟨e1, e2⟩ | ⟨e1, e2⟩
        · rw [if_pos e1]
          exact h208 0 (by show _ = if _ then _ else _; rw [if_neg e2])
        · rcases hnm2 with ⟨e, -⟩ | ⟨e, -⟩ | ⟨e, -⟩ | ⟨-, j1, j2, l1, l2, ej1, ej2, v1, v2⟩
          · rcases e2 with e2 | e2 <;> rw [e] at e2 <;> exact absurd e2 (by decide)
          · rcases e2 with e2 | e2 <;> rw [e] at e2 <;> exact absurd e2 (by decide)
          · rcases e2 with e2 | e2 <;> rw [e] at e2 <;> exact absurd e2 (by decide)
          · rw [if_neg e1, gR_e (by omega) c2.1.1.2.1 (r18 c2.1.1).1, base0, cI_e, gR_e (by omega) c2.1.1.2.1 (r6 c2.1.1).1, aI_e (by omega) (r6 c2.1.1).2 (show 20 * x + y < 240 by omega) (by decide), k6, ej2, nI_add, aI_e (by omega) (r18 c2.1.1).2 (show 20 * x + j2 < 120 by omega) (by decide), v2]
            exact h208 _ rfl
      rw [hk, if_neg (by decide), gR_e (by omega) c.1.1.2.1 (r1 c.1.1).1, show aI M 269 1 _ = _ from aI_e (i := 1) (by omega) (r1 c.1.1).2 (by decide) (by decide), hR.2.1]
      simp only
      rw [base1, cI_e, gR_e (by omega) c.1.1.2.1 (r3 c.1.1).1, aI_e (by omega) (r3 c.1.1).2 (show 6 + A.length < 12 by omega) (by decide), hp2, nI_add, hat, gR_e (by omega) c.1.1.2.1 (r4 c.1.1).1, gR_e (by omega) c.1.1.2.1 (r4 c.1.1).1, aI_e (by omega) (r4 c.1.1).2 (show 20 * x + y < 240 by omega) (by decide), q1, sI_e (by omega) (r4 c.1.1).2 (show at' < 240 by omega) (by decide), gR_e (by omega) c1.1.1.2.1 (r5 c1.1.1).1, gR_e (by omega) c1.1.1.2.1 (r4 c1.1.1).1, aI_e (by omega) (r4 c1.1.1).2 (show 20 * x + y < 240 by omega) (by decide), k1]
      rcases hnm with ⟨e, v1⟩ | ⟨e, n0, hn0, en, v1⟩ | ⟨e, n0, hn0, en, v1⟩ | ⟨e, j1, j2, l1, l2, ej1, ej2, v1, v2⟩
      · rw [if_pos (by rw [e]; decide), gR_e (by omega) c1.1.1.2.1 (r4 c1.1.1).1, aI_e (by omega) (r4 c1.1.1).2 (show 20 * x + y < 240 by omega) (by decide), k1, if_pos (by rw [e]; decide), gR_e (by omega) c1.1.1.2.1 (r4 c1.1.1).1, aI_e (by omega) (r4 c1.1.1).2 (show 20 * x + y < 240 by omega) (by decide), k1, if_pos (by rw [e]; decide), gR_e (by omega) c1.1.1.2.1 (r5 c1.1.1).1, aI_e (by omega) (r5 c1.1.1).2 (show 20 * x + y < 240 by omega) (by decide), k5, h170 _ v1.symm]
        exact hfin
      · rw [if_neg (fun h => h e), gR_e (by omega) c1.1.1.2.1 (r19 c1.1.1).1, gR_e (by omega) c1.1.1.2.1 (r5 c1.1.1).1, aI_e (by omega) (r5 c1.1.1).2 (show 20 * x + y < 240 by omega) (by decide), k5, en, aI_e (by omega) (r19 c1.1.1).2 hn0 (by decide), h170 _ v1]
        exact hfin
      · rw [if_pos (by rw [e]; decide), gR_e (by omega) c1.1.1.2.1 (r4 c1.1.1).1, aI_e (by omega) (r4 c1.1.1).2 (show 20 * x + y < 240 by omega) (by decide), k1, if_neg (fun h => h e), gR_e (by omega) c1.1.1.2.1 (r16 c1.1.1).1, gR_e (by omega) c1.1.1.2.1 (r5 c1.1.1).1, aI_e (by omega) (r5 c1.1.1).2 (show 20 * x + y < 240 by omega) (by decide), k5, en, aI_e (by omega) (r16 c1.1.1).2 hn0 (by decide), h170 _ v1]
        exact hfin
      · rw [if_pos (by rcases e with e | e <;> rw [e] <;> decide), gR_e (by omega) c1.1.1.2.1 (r4 c1.1.1).1, aI_e (by omega) (r4 c1.1.1).2 (show 20 * x + y < 240 by omega) (by decide), k1, if_pos (by rcases e with e | e <;> rw [e] <;> decide), gR_e (by omega) c1.1.1.2.1 (r4 c1.1.1).1, aI_e (by omega) (r4 c1.1.1).2 (show 20 * x + y < 240 by omega) (by decide), k1, if_neg (by rcases e with e | e <;> rw [e] <;> decide), gR_e (by omega) c1.1.1.2.1 (r18 c1.1.1).1, base0, cI_e, gR_e (by omega) c1.1.1.2.1 (r5 c1.1.1).1, aI_e (by omega) (r5 c1.1.1).2 (show 20 * x + y < 240 by omega) (by decide), k5, ej1, nI_add, aI_e (by omega) (r18 c1.1.1).2 (show 20 * x + j1 < 120 by omega) (by decide), h170 _ v1]
        exact hfin
    · rw [show kQ pr x y = false by simpa using hk, if_pos (show bI false = 0 from rfl)]
      have hbc : bC pr x (q :: t) y = bC pr x t (y + 1) := by show (if _ then _ else _) ++ _ = _; rw [if_neg hk]; rfl
      rw [hbc]
      exact ih (y + 1) acc M c hR hp (by omega) hd' (by omega) n' (by omega)
end PCP
