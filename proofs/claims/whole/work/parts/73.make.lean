/-! what stands, stands -/
theorem Gw.prog {M N : XM} {P : Nat} (s : Gw 1 M N) (hA : ProgAt M P) (hP : 1 < P) : ProgAt N P := by
  have hz := s.1
  obtain ⟨a1, a2, a3, a4, a5, a6, a7, a8⟩ := hA
  have t : ∀ a, a < P + 117 → xt N a = xt M a := fun a ha => (s.2 a (by omega)).1
  have r : ∀ a j, a < P + 117 → a ≠ 1 → xr N a j = xr M a j := fun a j ha hb => by rw [(s.2 a (by omega)).2.2 hb]
  refine ⟨by omega, by rw [t _ (by omega)]; exact a2, by rw [t _ (by omega)]; exact a3, by rw [t _ (by omega)]; exact a4, by rw [r _ _ (by omega) (by omega)]; exact a5, by rw [r _ _ (by omega) (by omega)]; exact a6, fun c hc => ?_, fun m hm => ?_⟩
  · obtain ⟨b1, b2, b3, b4, b5, b6, b7, b8, b9⟩ := a7 c hc
    exact ⟨by rw [r _ _ (by omega) (by omega)]; exact b1, by omega, by rw [t _ (by omega)]; exact b3, by rw [t _ (by omega)]; exact b4, by rw [t _ (by omega)]; exact b5, by rw [t _ (by omega)]; exact b6, by rw [r _ _ (by omega) (by omega)]; exact b7, by rw [r _ _ (by omega) (by omega)]; exact b8, by rw [r _ _ (by omega) (by omega)]; exact b9⟩
  · obtain ⟨b1, b2, b3, b4, b5, b6, b7⟩ := a8 m hm
    exact ⟨by rw [r _ _ (by omega) (by omega)]; exact b1, by omega, by rw [t _ (by omega)]; exact b3, by rw [t _ (by omega)]; exact b4, by rw [t _ (by omega)]; exact b5, by rw [r _ _ (by omega) (by omega)]; exact b6, by rw [r _ _ (by omega) (by omega)]; exact b7⟩
theorem Gw.shak {M N : XM} (s : Gw 1 M N) (hS : ShakAt M) : ShakAt N := by
  have hz := s.1
  obtain ⟨a1, a2, a3, a4, a5, a6, a7, a8, b1, b2, b3, b4, b5, b6, b7⟩ := hS
  have t : ∀ a, a < 249 → xt N a = xt M a := fun a ha => (s.2 a (by omega)).1
  have r : ∀ a j, a < 249 → a ≠ 1 → xr N a j = xr M a j := fun a j ha hb => by rw [(s.2 a (by omega)).2.2 hb]
  unfold ShakAt
  rw [t _ (by omega), t _ (by omega), t _ (by omega), t _ (by omega), t _ (by omega), t _ (by omega), t _ (by omega), r _ 0 (by omega) (by omega), r _ 1 (by omega) (by omega), r _ 2 (by omega) (by omega), r _ 3 (by omega) (by omega), r _ 4 (by omega) (by omega), r _ 5 (by omega) (by omega)]
  exact ⟨by omega, a2, a3, a4, a5, a6, a7, a8, b1, b2, b3, b4, b5, b6, fun c hc => ⟨by rw [r _ _ (by omega) (by omega)]; exact (b7 c hc).1, by rw [t _ (by omega)]; exact (b7 c hc).2⟩⟩
theorem Gw.mach {M N : XM} (s : Gw 1 M N) (hE : MachAt M) : MachAt N := by
  have hz := s.1
  obtain ⟨a1, a2, a3, a4, a5, a6, a7⟩ := hE
  have t : ∀ a, a < 268 → xt N a = xt M a := fun a ha => (s.2 a (by omega)).1
  have r : ∀ a j, a < 268 → a ≠ 1 → xr N a j = xr M a j := fun a j ha hb => by rw [(s.2 a (by omega)).2.2 hb]
  unfold MachAt
  rw [t _ (by omega), t _ (by omega), t _ (by omega), r _ 0 (by omega) (by omega), r _ 1 (by omega) (by omega)]
  exact ⟨by omega, a2, a3, a4, a5, a6, fun f hf => ⟨by rw [r _ _ (by omega) (by omega)]; exact (a7 f hf).1, by rw [t _ (by omega)]; exact (a7 f hf).2.1, by rw [t _ (by omega)]; exact (a7 f hf).2.2.1, by rw [r _ _ (by omega) (by omega)]; exact (a7 f hf).2.2.2⟩⟩
theorem refTab_in : ∀ q ∈ refTab, q.2.1 < 296 := by decide
theorem Gw.ref {M N : XM} (s : Gw 1 M N) (hR : RefAt M) : RefAt N := by
  have hz := s.1
  obtain ⟨a1, a2, a3⟩ := hR
  refine ⟨by omega, (s.2 268 (by omega)).1.trans a2, fun q hq => ⟨?_, (s.2 _ (Nat.lt_of_lt_of_le (refTab_in q hq) a1)).1.trans (a3 q hq).2⟩⟩
  rw [(s.2 268 (by omega)).2.2 (by omega)]
  exact (a3 q hq).1
/-! the reference -/
def refRows : List (Nat × Nat × Nat) := refTab.map fun q => (q.1, q.2.2)
theorem R_rows (v : Nat) (M : XM) : g_R_init v M = rowP 27 v refRows M fun M => g_R_init_225 FU v 0 M := rfl
theorem refRows_u : rowU refRows = 4076 := by decide
theorem refRows_n : refRows.length = 27 := by decide
theorem refRows_d : (refRows.map Prod.fst).Nodup := by decide
theorem refRows_l : ∀ q ∈ refRows, q.2.2 ≤ 100000 := by decide
theorem refTab_p : ∀ i, i < 27 → (refTab[i]?.map fun q => q.2.1) = some (269 + i) := by decide
theorem mk_R_l : ∀ (k i : Nat) (M : XM), i + k = 30 → 282 < xz M → xt M 268 = (27, 0) → xr M 268 14 = some 282 → xt M 282 = (0, 30) → (∀ j, j < i → xi M 282 j = -1) → ∀ n, k < n → ∃ N, g_R_init_225 n 268 (nI i) M = rV N ∧ Upd 282 283 M N ∧ ∀ j, j < 30 → xi N 282 j = -1 := by
  intro k
  induction k with
  | zero =>
    intro i M hi hz ht hr h2 h n hk
    obtain ⟨n', rfl⟩ : ∃ n', n = n' + 1 := ⟨n - 1, by omega⟩
    rw [g_R_init_225, if_pos (show (30 : Int32) ≤ nI i from nI_le (a := 30) (by omega) (by omega))]
    exact ⟨M, rfl, Upd.rf, fun j hj => h j (by omega)⟩
  | succ k ih =>
    intro i M hi hz ht hr h2 h n hk
    obtain ⟨n', rfl⟩ : ∃ n', n = n' + 1 := ⟨n - 1, by omega⟩
    rw [g_R_init_225, if_neg (show ¬ (30 : Int32) ≤ nI i from nI_ge (b := 30) (by omega) (by omega)), gR_e (by omega) ht hr, sI_e hz h2 (show i < 30 by omega) (by decide), nI_1]
    obtain ⟨N, n1, n2, n3⟩ := ih (i + 1) (xpi M 282 i (-1)) (by omega) hz ht hr h2 (fun j hj => by
      by_cases e : j = i
      · subst e; exact xi_eq _ _ _ _
      · rw [xi_ne (Or.inr e)]; exact h j (by omega)) n' (by omega)
    exact ⟨N, n1, (Upd.rf.pi (Nat.le_refl _) (Nat.lt_succ_self _)).tr n2, n3⟩
theorem mk_R {M : XM} (hz : xz M = 269) (ht : xt M 268 = (27, 0)) (hu : xu M ≤ 1000000) : ∃ N, g_R_init 268 M = rV N ∧ xz N = 296 ∧ xu N = xu M + 4076 ∧ Gw 268 M N ∧ RefAt N ∧ xi N 269 = (fun _ => 0) ∧ xi N 270 = (fun _ => 0) ∧ ∀ m, m < 30 → xi N 282 m = -1 := by
  have hZ := ZM_e
  have hU := UM_e
  have hl := refRows_n
  have hs := refRows_u
  obtain ⟨r1, r2, r3⟩ := rowM_e (v0 := 268) refRows M
  have w := fun i q hq => rowM_new (v0 := 268) refRows M i q hq
  have f := fun i q hq => rowM_ref (v0 := 268) refRows M i q (by omega) refRows_d hq
  have t0 := (r3.2 268 (by omega)).1.trans ht
  rw [R_rows, rowP_e _ M (by omega) ht refRows_l (by omega) (by omega)]
  generalize rowM 268 refRows M = M1 at *
  rw [hz] at w f
  have hA : RefAt M1 := by
    refine ⟨by omega, t0, fun q hq => ?_⟩
    obtain ⟨i, hi⟩ := List.getElem?_of_mem hq
    have hi' : i < 27 := (List.getElem?_eq_some_iff.mp hi).1
    have e := refTab_p i hi'
    rw [hi] at e
    have e' : q.2.1 = 269 + i := Option.some.inj e
    have hq' : refRows[i]? = some (q.1, q.2.2) := by
      unfold refRows
      rw [List.getElem?_map, hi]
      rfl
    rw [e']
    exact ⟨f i _ hq', (w i _ hq').1⟩
  obtain ⟨N, n1, n2, n3⟩ := mk_R_l 30 0 M1 rfl (by omega) t0 (f 13 _ rfl) (w 13 _ rfl).1 (fun j hj => absurd hj (by omega)) FU (FU_lt (by decide))
  have pz := n2.1
  have pu := n2.2.1
  refine ⟨N, n1, by omega, by omega, ⟨by omega, fun a ha => ?_⟩, ?_, ?_, ?_, n3⟩
  · rw [n2.2.2.1, n2.2.2.2.1, n2.2.2.2.2.2 a (by omega)]
    exact r3.2 a ha
  · unfold RefAt
    rw [n2.1, n2.2.2.1, n2.2.2.2.1]
    exact hA
  · rw [n2.2.2.2.2.2 269 (by omega)]; exact (w 0 _ rfl).2
  · rw [n2.2.2.2.2.2 270 (by omega)]; exact (w 1 _ rfl).2
/-! the whole object -/
theorem mk_at {M : XM} {k n u z : Nat} (hz : xz M = z) : xz (xnw M k n u) = z + 1 ∧ xu (xnw M k n u) = xu M + u ∧ xt (xnw M k n u) z = (k, n) ∧ xi (xnw M k n u) z = fun _ => 0 := by
  subst hz
  exact ⟨z_nw, u_nw, nw_t, nw_i⟩
theorem mk_S {M : XM} (hz : xz M = 2) (ht : xt M 1 = (20, 0)) (hu : xu M ≤ 1000) : ∃ N, g_S_init 1 M = rV N ∧ xz N = 268 ∧ xu N ≤ 10000 ∧ Gw 1 M N ∧ xr N 1 0 = some 2 ∧ xr N 1 1 = some 119 ∧ xr N 1 2 = some 236 ∧ xr N 1 3 = some 249 ∧ ProgAt N 2 ∧ ProgAt N 119 ∧ ShakAt N ∧ MachAt N ∧ xi N 2 = (fun _ => 0) ∧ xi N 119 = (fun _ => 0) ∧ ∀ m, m < 30 → xi N 237 m = -1 := by
  have hZ := ZM_e
  have hU := UM_e
  unfold g_S_init
  -- the first program
  rw [nO_e (by omega) (by omega), hz]
  obtain ⟨a1, a2, a3, a4⟩ := mk_at (k := 21) (n := 0) (u := 4) hz
  have ga : Gw 2 M (xnw M 21 0 4) := Gw.nw
  generalize xnw M 21 0 4 = A at *
  obtain ⟨B, b0, b1, b2, b3, b4⟩ := mk_P (P := 2) a1 a3 (by omega) (by omega)
  have gb : Gw 1 M B := (ga.tr b3).new (by omega)
  have b5 := (b3.2 2 (by omega)).2.1.trans a4
  have b6 := (gb.2 1 (by omega)).1.trans ht
  rw [b0, cV_e, uR_e (by omega) b6]
  obtain ⟨C, c0, c1, c2, c3, c4⟩ : ∃ X, xpr B 1 0 2 = X ∧ Gw 1 B X ∧ xz X = xz B ∧ xu X = xu B ∧ xr X 1 0 = some 2 := ⟨_, rfl, Gw.rf.pr, z_pr, u_pr, xr_eq _ _ _ _⟩
  rw [c0]
  have c5 := c1.prog b4 (by omega)
  have c6 := (c1.2 2 (by omega)).2.1.trans b5
  have c7 := (c1.2 1 (by omega)).1.trans b6
  have gc : Gw 1 M C := gb.tr c1
  clear a1 a3 a4 ga gb b0 b3 b4 b5 b6 c0 c1
  have cz : xz C = 119 := by omega
  -- the second
  rw [nO_e (by omega) (by omega), cz]
  obtain ⟨a1, d2, a3, a4⟩ := mk_at (k := 21) (n := 0) (u := 4) cz
  have ga : Gw 119 C (xnw C 21 0 4) := Gw.nw
  generalize xnw C 21 0 4 = D at *
  obtain ⟨E, b0, b1', b2', b3, b4⟩ := mk_P (P := 119) a1 a3 (by omega) (by omega)
  have gb : Gw 119 C E := ga.tr b3
  have gb1 : Gw 1 C E := gb.new (by omega)
  have b5 := (b3.2 119 (by omega)).2.1.trans a4
  have b6 := (gb.2 1 (by omega)).1.trans c7
  have b7 : xr E 1 0 = some 2 := by rw [(gb.2 1 (by omega)).2.2 (by omega)]; exact c4
  rw [b0, cV_e, uR_e (by omega) b6]
  obtain ⟨F, e0, e1, e2, e3, e4, e5⟩ : ∃ X, xpr E 1 1 119 = X ∧ Gw 1 E X ∧ xz X = xz E ∧ xu X = xu E ∧ xr X 1 1 = some 119 ∧ xr X 1 0 = xr E 1 0 := ⟨_, rfl, Gw.rf.pr, z_pr, u_pr, xr_eq _ _ _ _, xr_ne (Or.inr (by decide))⟩
  rw [e0]
  have f1 := (gb1.tr e1).prog c5 (by omega)
  have f2 := e1.prog b4 (by omega)
  have f3 := ((gb1.tr e1).2 2 (by omega)).2.1.trans c6
  have f4 := (e1.2 119 (by omega)).2.1.trans b5
  have f5 := (e1.2 1 (by omega)).1.trans b6
  have f6 : xr F 1 0 = some 2 := e5.trans b7
  have gf : Gw 1 M F := (gc.tr gb1).tr e1
  clear a1 a3 a4 ga gb gb1 b0 b3 b4 b5 b6 b7 c4 c5 c6 c7 e0 e1 e5 gc
  have fz : xz F = 236 := by omega
  -- the shaker
  rw [nO_e (by omega) (by omega), fz]
  obtain ⟨a1, a2', a3, a4⟩ := mk_at (k := 24) (n := 0) (u := 7) fz
  have ga : Gw 236 F (xnw F 24 0 7) := Gw.nw
  generalize xnw F 24 0 7 = G at *
  obtain ⟨H, b0, h1, h2, b3, b4, b5⟩ := mk_K a1 a3 (by omega)
  have gb : Gw 236 F H := ga.tr b3
  have gb1 : Gw 1 F H := gb.new (by omega)
  have b6 := (gb.2 1 (by omega)).1.trans f5
  have b7 : xr H 1 = xr F 1 := (gb.2 1 (by omega)).2.2 (by omega)
  rw [b0, cV_e, uR_e (by omega) b6]
  obtain ⟨I, i0, i1, i2, i3, i4, i5, i6, i7⟩ : ∃ X, xpr H 1 2 236 = X ∧ Gw 1 H X ∧ xz X = xz H ∧ xu X = xu H ∧ xr X 1 2 = some 236 ∧ xr X 1 0 = xr H 1 0 ∧ xr X 1 1 = xr H 1 1 ∧ xi X = xi H := ⟨_, rfl, Gw.rf.pr, z_pr, u_pr, xr_eq _ _ _ _, xr_ne (Or.inr (by decide)), xr_ne (Or.inr (by decide)), i_pr⟩
  rw [i0]
  have gi : Gw 1 F I := gb1.tr i1
  have j1 := gi.prog f1 (by omega)
  have j2 := gi.prog f2 (by omega)
  have j3 := i1.shak b4
  have j4 := (gi.2 2 (by omega)).2.1.trans f3
  have j5 := (gi.2 119 (by omega)).2.1.trans f4
  have j6 := (i1.2 1 (by omega)).1.trans b6
  have j7 : xr I 1 0 = some 2 := by rw [i5, b7]; exact f6
  have j8 : xr I 1 1 = some 119 := by rw [i6, b7]; exact e4
  have j9 : ∀ m, m < 30 → xi I 237 m = -1 := by rw [i7]; exact b5
  have gj : Gw 1 M I := gf.tr gi
  clear a1 a3 a4 ga gb gb1 b0 b3 b4 b5 b6 b7 f1 f2 f3 f4 f5 f6 e4 i0 i1 i5 i6 i7 gi gf
  have iz : xz I = 249 := by omega
  -- the machine
  rw [nO_e (by omega) (by omega), iz]
  obtain ⟨a1, a2'', a3, a4⟩ := mk_at (k := 26) (n := 0) (u := 4) iz
  have ga : Gw 249 I (xnw I 26 0 4) := Gw.nw
  generalize xnw I 26 0 4 = J at *
  obtain ⟨K, b0, k1, k2, b3, b4⟩ := mk_E a1 a3 (by omega)
  have gb : Gw 249 I K := ga.tr b3
  have gb1 : Gw 1 I K := gb.new (by omega)
  have b6 := (gb.2 1 (by omega)).1.trans j6
  have b7 : xr K 1 = xr I 1 := (gb.2 1 (by omega)).2.2 (by omega)
  rw [b0, cV_e, uR_e (by omega) b6]
  obtain ⟨N, i0, i1, n2, n3, n4, n5, n6, n7⟩ : ∃ X, xpr K 1 3 249 = X ∧ Gw 1 K X ∧ xz X = xz K ∧ xu X = xu K ∧ xr X 1 3 = some 249 ∧ xr X 1 0 = xr K 1 0 ∧ xr X 1 1 = xr K 1 1 ∧ xr X 1 2 = xr K 1 2 := ⟨_, rfl, Gw.rf.pr, z_pr, u_pr, xr_eq _ _ _ _, xr_ne (Or.inr (by decide)), xr_ne (Or.inr (by decide)), xr_ne (Or.inr (by decide))⟩
  rw [i0]
  have gi : Gw 1 I N := gb1.tr i1
  refine ⟨N, rfl, by omega, by omega, gj.tr gi, by rw [n5, b7]; exact j7, by rw [n6, b7]; exact j8, by rw [n7, b7]; exact i4, n4, gi.prog j1 (by omega), gi.prog j2 (by omega), gi.shak j3, i1.mach b4, (gi.2 2 (by omega)).2.1.trans j4, (gi.2 119 (by omega)).2.1.trans j5, ?_⟩
  rw [(gi.2 237 (by omega)).2.1]
  exact j9
theorem RepC.zero {M : XM} {P : Nat} (h : xi M P = fun _ => 0) : RepC M P ([], []) := by
  refine ⟨by decide, by rw [h]; rfl, by decide, by rw [h]; rfl, fun c cl hc => ?_, fun m b hb => ?_⟩
  · cases hc
  · cases hb
theorem RepR.zero {M : XM} {p : Nat} (h1 : xi M 269 = fun _ => 0) (h2 : xi M 270 = fun _ => 0) : RepR M p ([], []) := by
  refine ⟨by decide, by rw [h1]; rfl, by decide, by rw [h2]; rfl, fun c cl hc => ?_, fun m b hb => ?_⟩
  · cases hc
  · cases hb
theorem Clo.zero : Clo ([], []) := fun _ h => by cases h
theorem mk_W {M : XM} {L : Nat} (hz : xz M = 1) (hu : xu M = 0) (ht : xt M 0 = (5, L)) : ∃ N, g_W_law 0 M = g_W_law_23 FU 0 1 268 296 0 N ∧ xt N 0 = (5, L) ∧ Inv N 0 ([], []) ([], []) := by
  have hZ := ZM_e
  have hU := UM_e
  unfold g_W_law
  rw [nO_e (by omega) (by omega), hz]
  obtain ⟨a1, a2, a3, a4⟩ := mk_at (k := 20) (n := 0) (u := 4) hz
  have ga : Gw 1 M (xnw M 20 0 4) := Gw.nw
  generalize xnw M 20 0 4 = A at *
  obtain ⟨B, b0, b1, b2, b3, b4, b5, b6, b7, b8, b9, b10, b11, b12, b13, b14⟩ := mk_S a1 a3 (by omega)
  rw [b0, cV_e, nO_e (by omega) (by omega), b1]
  obtain ⟨c1, c2, c3, c4⟩ := mk_at (k := 27) (n := 0) (u := 30) b1
  have gc : Gw 268 B (xnw B 27 0 30) := Gw.nw
  generalize xnw B 27 0 30 = C at *
  obtain ⟨D, d0, d1, d2, d3, d4, d5, d6, d7⟩ := mk_R c1 c3 (by omega)
  rw [d0, cV_e, show (1 : Int32) = nI 1 from rfl, nA_e (by omega) (by omega) (by omega), d1]
  obtain ⟨e1, e2, e3, e4⟩ := mk_at (k := 2) (n := 1) (u := 1) d1
  have ge : Gw 1 D (xnw D 2 1 1) := Gw.nw
  have gf : Gw 268 D (xnw D 2 1 1) := Gw.nw
  generalize xnw D 2 1 1 = E at *
  have gd : Gw 268 B D := gc.tr d3
  have g2 : Gw 268 B E := gd.tr gf
  have g1 : Gw 1 B E := g2.new (by omega)
  have r1 : xr E 1 = xr B 1 := (g2.2 1 (by omega)).2.2 (by omega)
  have t1 : xt E 1 = (20, 0) := (g1.2 1 (by omega)).1.trans ((b3.2 1 (by omega)).1.trans a3)
  have t0 : xt E 0 = (5, L) := (g1.2 0 (by omega)).1.trans ((b3.2 0 (by omega)).1.trans ((ga.2 0 (by omega)).1.trans ht))
  have i2 := (g1.2 2 (by omega)).2.1.trans b12
  have i119 := (g1.2 119 (by omega)).2.1.trans b13
  have i269 := (ge.2 269 (by omega)).2.1.trans d5
  have i270 := (ge.2 270 (by omega)).2.1.trans d6
  refine ⟨E, rfl, t0, ⟨by omega, t1, by rw [r1]; exact b4, by rw [r1]; exact b5, by rw [r1]; exact b6, by rw [r1]; exact b7, e3, g1.prog b8 (by omega), g1.prog b9 (by omega), g1.shak b10, g1.mach b11, ge.ref d4⟩, by omega, by omega, .zero i2, .zero i269 i270, WF.nil, .zero i119, .zero i269 i270, WF.nil, Clo.zero, fun m hm => ?_⟩
  rw [(g1.2 237 (by omega)).2.1, (ge.2 282 (by omega)).2.1, b14 m hm, d7 m hm]
