/-! the shaken program, and how the class writes it -/
def useB (i : IN) : Bool := decide (i.1 = 0 ∨ i.1 = 1 ∨ i.1 = 2 ∨ i.1 = 3)
noncomputable def nFirst (pr : PR) (c : Nat) (q : CT) : Int32 := if q.1 = 1 then nmV pr q.2.1.toNatClampNeg else if q.1 = 2 then num (kC pr) q.2.1.toNatClampNeg else if q.1 = 3 ∨ q.1 = 4 then num (kQ pr c) q.2.1.toNatClampNeg else q.2.1
noncomputable def ncV (pr : PR) (c : Nat) (q : CT) : CT := (q.1, nFirst pr c q, if q.1 = 3 ∨ q.1 = 4 then num (kQ pr c) q.2.2.toNatClampNeg else 0)
noncomputable def bC (pr : PR) (c : Nat) : List CT → Nat → List CT
  | [], _ => []
  | q :: t, j => (if kQ pr c j = true then [ncV pr c q] else []) ++ bC pr c t (j + 1)
noncomputable def bP (pr : PR) : List (List CT) → Nat → List (List CT)
  | [], _ => []
  | cl :: t, c => (if kC pr c = true then [bC pr c cl 0] else []) ++ bP pr t (c + 1)
noncomputable def niV (pr : PR) (c : Nat) (i : IN) : IN := (i.1, if useB i = true then num (kQ pr c) i.2.toNatClampNeg else i.2)
noncomputable def nbV (pr : PR) (b : MB) : MB := (num (kC pr) b.1.toNatClampNeg, num (kQ pr b.1.toNatClampNeg) b.2.1.toNatClampNeg, b.2.2.1, b.2.2.2.1, b.2.2.2.2.map (niV pr b.1.toNatClampNeg))
noncomputable def bM (pr : PR) : List MB → Nat → List MB
  | [], _ => []
  | b :: t, m => (if kM pr m = true then [nbV pr b] else []) ++ bM pr t (m + 1)
noncomputable def psV (pr : PR) : PR := (bP pr pr.1 0, bM pr pr.2 0)
def CtW (M : XM) (pr cur : PR) : Prop := Lay M ∧ RepC M 2 pr ∧ RepC M 119 cur ∧ NumC M pr ∧ ∀ n, n < 100 → xi M 246 n = nmV pr n
theorem Upd.ctw {M N : XM} {pr cur cur' : PR} (h : Upd 119 236 M N) (c : CtW M pr cur) (hR : RepC N 119 cur') : CtW N pr cur' :=
  ⟨h.lay c.1, c.2.1.congr fun b _ _ => h.2.2.2.2.2 b (by omega), hR, ⟨fun m hm => by rw [h.2.2.2.2.2 _ (by omega)]; exact c.2.2.2.1.1 m hm, fun m hm => by rw [h.2.2.2.2.2 _ (by omega)]; exact c.2.2.2.1.2.1 m hm, fun d j hd hj => by rw [h.2.2.2.2.2 _ (by omega)]; exact c.2.2.2.1.2.2 d j hd hj⟩, fun n hn => by rw [h.2.2.2.2.2 _ (by omega)]; exact c.2.2.2.2 n hn⟩
theorem set_last {α : Type} (A : List α) (a x : α) : (A ++ [a]).set A.length x = A ++ [x] := by simp
section PWR
variable {M : XM} {pr : PR}
theorem CtW.k {cur : PR} (c : CtW M pr cur) : CtK M pr := ⟨c.1, c.2.1⟩
theorem CtW.p2 {cur : PR} (c : CtW M pr cur) : ProgAt M 119 := c.1.2.2.2.2.2.2.2.2.1
theorem s_K_newFirst {cur : PR} (c : CtW M pr cur) (hW : WF pr) {x : Nat} {cl : List CT} {q : CT} (hcl : pr.1[x]? = some cl) (hq : q ∈ cl) : g_K_newFirst 236 q.1 q.2.1 (240 + x) M = rI (nFirst pr x q) M := by
  have h6 := c.2.1.1
  have hx : x < pr.1.length := (List.getElem?_eq_some_iff.mp hcl).1
  have hl := c.2.1.sz.2.2.1 cl (List.mem_of_getElem? hcl)
  obtain ⟨s1, s2, s3, s4, s5, s6, s7, s8, s9, s10, s11, s12, s13, s14, s15⟩ := id c.k.sh
  unfold g_K_newFirst nFirst
  rcases hW.1 cl (List.mem_of_getElem? hcl) q hq with e | ⟨e, k, hk, ek⟩ | ⟨e, k, hk, ek⟩ | ⟨e, -⟩
  · rw [if_neg (by rw [e]; decide), if_neg (by rw [e]; decide), if_neg (by rw [e]; decide), if_neg (by rw [e]; decide), if_neg (by rw [e]; decide), if_neg (by rw [e]; decide), if_neg (by rw [e]; decide)]
  · rw [if_pos e, if_pos e, gR_e (by omega) s2 s12, ek, aI_e (by omega) s6 hk (by decide), c.2.2.2.2 k hk, nI_clamp (by omega)]
  · rw [if_neg (by rw [e]; decide), if_pos e, if_neg (by rw [e]; decide), if_pos e, gR_e (by omega) s2 s10, ek, aI_e (by omega) s4 (show k < 6 by omega) (by decide), c.2.2.2.1.2.1 k (by omega), nI_clamp (by omega)]
  · obtain ⟨j1, j2, l1, l2, ej1, ej2, -⟩ := two_const hW (List.mem_of_getElem? hcl) hl hq e
    have hr : aI M (240 + x) (nI j1) (fun t2 => some (.inl (some (.int t2)), M)) = rI (num (kQ pr x) (nI j1).toNatClampNeg) M := by
      rw [aI_e (by omega) (s15 x (by omega)).2 (show j1 < 20 by omega) (by decide), c.2.2.2.1.2.2 x j1 (by omega) (by omega), nI_clamp (by omega)]
    rcases e with e' | e'
    · simp only [e', show ¬ (3 : Int32) = 1 by decide, show ¬ (3 : Int32) = 2 by decide, true_or, if_true, if_false, ej1]; exact hr
    · simp only [e', show ¬ (4 : Int32) = 1 by decide, show ¬ (4 : Int32) = 2 by decide, show ¬ (4 : Int32) = 3 by decide, or_true, if_true, if_false, ej1]; exact hr
theorem num_ne {P : Nat → Bool} {j : Nat} (hj : j < 1000) (h : P j = true) : ¬ num P j = -1 := by
  unfold num
  rw [if_pos h]
  have := rk_le P j
  exact fun e => nI_pos (show rk P j < 2 ^ 31 by omega) (by rw [e]; decide)
theorem num_no {P : Nat → Bool} {j : Nat} (h : ¬ P j = true) : num P j = -1 := by unfold num; rw [if_neg h]
theorem s_K_wp (hW : WF pr) {x : Nat} {cl : List CT} (hcl : pr.1[x]? = some cl) (A : List (List CT)) (B : List MB) : ∀ (t : List CT) (y : Nat) (acc : List CT) (M : XM), CtW M pr (A ++ [acc], B) → y ≤ cl.length → cl.drop y = t → acc.length ≤ y → ∀ n, t.length < n →
    ∃ N, g_K_writePool_3 n 236 (2 + 3 + 4 * x) (240 + x) (119 + 3 + 4 * A.length) (nI y) M = rV N ∧ Upd 119 236 M N ∧ CtW N pr (A ++ [acc ++ bC pr x t y], B) := by
  intro t
  induction t with
  | nil =>
    intro y acc M c hy hd ha n hn
    obtain ⟨n', rfl⟩ : ∃ n', n = n' + 1 := ⟨n - 1, by omega⟩
    have hlen := dropN hd hy
    obtain ⟨hc6, hxc, hPa, hPi⟩ := c.2.1.pool c.k.pg hcl
    have hzq := hPa.1
    have hl := hPi.1
    unfold g_K_writePool_3
    rw [gI_e (by omega) hPa.2.1, hPi.2.1, if_pos (nI_le (by omega) (by omega))]
    refine ⟨M, rfl, Upd.rf, ?_⟩
    rw [show acc ++ bC pr x [] y = acc from List.append_nil _]
    exact c
  | cons q t ih =>
    intro y acc M c hy hd ha n hn
    obtain ⟨n', rfl⟩ : ∃ n', n = n' + 1 := ⟨n - 1, by omega⟩
    obtain ⟨hq, hd', hyl⟩ := dropC hd
    obtain ⟨hc6, hxc, hPa, hPi⟩ := c.2.1.pool c.k.pg hcl
    have hzq := hPa.1
    have hl := hPi.1
    obtain ⟨s1, s2, s3, s4, s5, s6, s7, s8, s9, s10, s11, s12, s13, s14, s15⟩ := id c.k.sh
    simp only [List.length_cons] at hn
    unfold g_K_writePool_3
    rw [gI_e (by omega) hPa.2.1, hPi.2.1, if_neg (nI_ge hyl (by omega)), aI_e (by omega) (s15 x hc6).2 (show y < 20 by omega) (by decide), c.2.2.2.1.2.2 x y hc6 (by omega)]
    by_cases hk : kQ pr x y = true
    · have hbc : bC pr x (q :: t) y = [ncV pr x q] ++ bC pr x t (y + 1) := by show (if _ then _ else _) ++ _ = _; rw [if_pos hk]
      have hlast : (A ++ [acc])[A.length]? = some acc := by simp
      obtain ⟨hA6, hxA, hQa, hQi⟩ := c.2.2.1.pool c.p2 hlast
      have hzA := hQa.1
      have h66 : ∀ v, v = (ncV pr x q).2.2 → ∃ N, g_K_writePool_66 (g_K_writePool_3 n') 236 (2 + 3 + 4 * x) (240 + x) (119 + 3 + 4 * A.length) (nI y) q.1 (nFirst pr x q) v M = rV N ∧ Upd 119 236 M N ∧ CtW N pr (A ++ [acc ++ bC pr x (q :: t) y], B) := by
        intro v hv
        obtain ⟨K, k1, k2, k3⟩ := s_Q_append hQa hQi (show acc.length < 20 by omega) q.1 (nFirst pr x q) v
        have hR := c.2.2.1.setPool (c := A.length) (by simp) k2 k3
        simp only at hR
        rw [set_last] at hR
        have hU : Upd 119 236 M K := k3.wide (by omega) (by omega)
        unfold g_K_writePool_66
        rw [rv_e (by omega) hQa.2.1, k1, cI_e, nI_1]
        obtain ⟨N, n1, n2, n3⟩ := ih (y + 1) (acc ++ [(q.1, nFirst pr x q, v)]) K (hU.ctw c hR) (by omega) hd' (by simp; omega) n' (by omega)
        refine ⟨N, n1, hU.tr n2, ?_⟩
        rw [hbc, ← List.append_assoc, show ncV pr x q = (q.1, nFirst pr x q, v) by rw [hv]; rfl]
        exact n3
      rw [if_neg (num_ne (by omega) hk), gR_e (by omega) hPa.2.1 hPa.2.2.2.2.2.1, aI_e (by omega) hPa.2.2.1 (by omega) (by decide), (hPi.2.2 y q hq).1, gR_e (by omega) hPa.2.1 hPa.2.2.2.2.2.2.1, aI_e (by omega) hPa.2.2.2.1 (by omega) (by decide), (hPi.2.2 y q hq).2.1, rv24 c.k, s_K_newFirst c hW hcl (List.mem_of_getElem? hq), cI_e, s_hasTwo, cI_e]
      by_cases h34 : q.1 = 3 ∨ q.1 = 4
      · obtain ⟨j1, j2, l1, l2, ej1, ej2, -⟩ := two_const hW (List.mem_of_getElem? hcl) hl (List.mem_of_getElem? hq) h34
        rw [decide_eq_true h34, if_neg (by decide), gR_e (by omega) hPa.2.1 hPa.2.2.2.2.2.2.2, aI_e (by omega) hPa.2.2.2.2.1 (by omega) (by decide), (hPi.2.2 y q hq).2.2, ej2, aI_e (by omega) (s15 x hc6).2 (show j2 < 20 by omega) (by decide), c.2.2.2.1.2.2 x j2 hc6 (by omega)]
        exact h66 _ (by show _ = if _ then _ else _; rw [if_pos h34, ej2, nI_clamp (by omega)])
      · rw [decide_eq_false h34, if_pos (show bI false = 0 from rfl)]
        exact h66 _ (by show _ = if _ then _ else _; rw [if_neg h34])
    · rw [if_pos (num_no hk), nI_1]
      have hbc : bC pr x (q :: t) y = bC pr x t (y + 1) := by show (if _ then _ else _) ++ _ = _; rw [if_neg hk]; rfl
      rw [hbc]
      exact ih (y + 1) acc M c (by omega) hd' (by omega) n' (by omega)
theorem s_K_wi (hW : WF pr) (hC : Clo pr) {m d : Nat} {b : MB} {cl : List CT} (hb : pr.2[m]? = some b) (hcl : lk pr.1 b.1 = some cl) (d6 : d < 6) (hl20 : cl.length ≤ 20) (A : List (List CT)) (B : List MB) (ow nm ar en : Int32) : ∀ (t : List IN) (y : Nat) (acc : List IN) (M : XM), CtW M pr (A, B ++ [(ow, nm, ar, en, acc)]) → y ≤ b.2.2.2.2.length → b.2.2.2.2.drop y = t → acc.length = y → ∀ n, t.length < n →
    ∃ N, g_K_writeMember_56 n (2 + 27 + 3 * m) (240 + d) (119 + 27 + 3 * B.length) (nI y) M = rV N ∧ Upd 119 236 M N ∧ CtW N pr (A, B ++ [(ow, nm, ar, en, acc ++ t.map (niV pr d))]) := by
  intro t
  induction t with
  | nil =>
    intro y acc M c hy hd ha n hn
    obtain ⟨n', rfl⟩ : ∃ n', n = n' + 1 := ⟨n - 1, by omega⟩
    have hlen := dropN hd hy
    obtain ⟨hm30, hxr, hMa, e1, e2, e3, e4, e5, e6, e7⟩ := c.2.1.memb c.k.pg hb
    have hza := hMa.1
    unfold g_K_writeMember_56
    rw [gI_e (by omega) hMa.2.1, e5, if_pos (nI_le (by omega) (by omega))]
    refine ⟨M, rfl, Upd.rf, ?_⟩
    rw [List.map_nil, List.append_nil]
    exact c
  | cons i t ih =>
    intro y acc M c hy hd ha n hn
    obtain ⟨n', rfl⟩ : ∃ n', n = n' + 1 := ⟨n - 1, by omega⟩
    obtain ⟨hi, hd', hyl⟩ := dropC hd
    obtain ⟨hm30, hxr, hMa, e1, e2, e3, e4, e5, e6, e7⟩ := c.2.1.memb c.k.pg hb
    have hza := hMa.1
    have hbm := List.mem_of_getElem? hb
    obtain ⟨s1, s2, s3, s4, s5, s6, s7, s8, s9, s10, s11, s12, s13, s14, s15⟩ := id c.k.sh
    have hlast : (B ++ [(ow, nm, ar, en, acc)])[B.length]? = some (ow, nm, ar, en, acc) := by simp
    obtain ⟨hB30, hxB, hBa, hBi⟩ := c.2.2.1.memb c.p2 hlast
    have hzB := hBa.1
    simp only [List.length_cons] at hn
    have hap : ∀ v, niV pr d i = (i.1, v) → ∃ N, (rv M 23 (119 + 27 + 3 * B.length) <| cI (g_B_append (119 + 27 + 3 * B.length) i.1 v M) fun _ M9 => g_K_writeMember_56 n' (2 + 27 + 3 * m) (240 + d) (119 + 27 + 3 * B.length) (nI y + 1) M9) = rV N ∧ Upd 119 236 M N ∧ CtW N pr (A, B ++ [(ow, nm, ar, en, acc ++ (i :: t).map (niV pr d))]) := by
      intro v hv
      obtain ⟨K, k1, k2, k3⟩ := s_B_append hBa hBi (show acc.length < 20 by omega) i.1 v
      have hR := c.2.2.1.setMemb (m := B.length) (by simp) k2 k3
      simp only at hR
      rw [set_last] at hR
      have hU : Upd 119 236 M K := k3.wide (by omega) (by omega)
      rw [rv_e (by omega) hBa.2.1, k1, cI_e, nI_1]
      obtain ⟨N, n1, n2, n3⟩ := ih (y + 1) (acc ++ [(i.1, v)]) K (hU.ctw c hR) (by omega) hd' (by simp; omega) n' (by omega)
      refine ⟨N, n1, hU.tr n2, ?_⟩
      rw [List.map_cons, hv, show acc ++ ((i.1, v) :: t.map (niV pr d)) = acc ++ [(i.1, v)] ++ t.map (niV pr d) by simp]
      exact n3
    unfold g_K_writeMember_56
    rw [gI_e (by omega) hMa.2.1, e5, if_neg (nI_ge hyl (by omega)), gR_e (by omega) hMa.2.1 hMa.2.2.2.2.1, aI_e (by omega) hMa.2.2.1 (by omega) (by decide), (e7 y i hi).1, gR_e (by omega) hMa.2.1 hMa.2.2.2.2.2, aI_e (by omega) hMa.2.2.2.1 (by omega) (by decide), (e7 y i hi).2, s_uses, cI_e]
    by_cases hu : i.1 = 0 ∨ i.1 = 1 ∨ i.1 = 2 ∨ i.1 = 3
    · obtain ⟨p, q, ep, hp, -⟩ := use_const c.2.1.2.2.1 hl20 hcl (hC b hbm i (List.mem_of_getElem? hi)) hu
      rw [decide_eq_true hu, if_neg (by decide), ep, aI_e (by omega) (s15 d d6).2 (show p < 20 by omega) (by decide), c.2.2.2.1.2.2 d p d6 (by omega)]
      exact hap _ (by unfold niV useB; rw [decide_eq_true hu, if_pos rfl, ep, nI_clamp (by omega)])
    · rw [decide_eq_false hu, if_pos (show bI false = 0 from rfl)]
      exact hap _ (by unfold niV useB; rw [decide_eq_false hu, if_neg (by decide)])
theorem s_K_writeMember (hW : WF pr) (hC : Clo pr) {m : Nat} {b : MB} (hb : pr.2[m]? = some b) {A : List (List CT)} {B : List MB} (hB : B.length < 30) (c : CtW M pr (A, B)) : ∃ N, g_K_writeMember 236 (2 + 27 + 3 * m) 119 M = rV N ∧ Upd 119 236 M N ∧ CtW N pr (A, B ++ [nbV pr b]) := by
  have hbm := List.mem_of_getElem? hb
  have hok := hW.2 b hbm
  obtain ⟨d, j, cl, d6, j20, ed, ej, hcl, hdl, hjl, hl20⟩ := okM.at c.2.1.sz hok
  obtain ⟨hm30, hxr, hMa, e1, e2, e3, e4, e5, e6, e7⟩ := c.2.1.memb c.k.pg hb
  have hza := hMa.1
  have hp2 := c.p2.1
  obtain ⟨s1, s2, s3, s4, s5, s6, s7, s8, s9, s10, s11, s12, s13, s14, s15⟩ := id c.k.sh
  obtain ⟨K, k1, k2, k3⟩ := s_P_startMember c.p2 c.2.2.1 hB (num (kC pr) d) (num (kQ pr d) j) b.2.2.1
  have hU : Upd 119 236 M K := k3.wide (by omega) (by omega)
  have cK := hU.ctw c k2
  have hlast : (B ++ [(num (kC pr) d, num (kQ pr d) j, b.2.2.1, (0 : Int32), ([] : List IN))])[B.length]? = some (num (kC pr) d, num (kQ pr d) j, b.2.2.1, 0, []) := by simp
  obtain ⟨hB30, hxB, hBa, hBi⟩ := cK.2.2.1.memb cK.p2 hlast
  have hzB := hBa.1
  have hpK := cK.p2.1
  obtain ⟨hm30', hxr', hMa', f1, f2, f3, f4, f5, f6, f7⟩ := cK.2.1.memb cK.k.pg hb
  have hza' := hMa'.1
  have hU2 : Upd (119 + 27 + 3 * B.length) (119 + 27 + 3 * B.length + 3) K (xpi K (119 + 27 + 3 * B.length) 3 b.2.2.2.1) := Upd.rf.pi (by omega) (by omega)
  have hMI : MembIs (xpi K (119 + 27 + 3 * B.length) 3 b.2.2.2.1) (119 + 27 + 3 * B.length) (num (kC pr) d, num (kQ pr d) j, b.2.2.1, b.2.2.2.1, []) := by
    obtain ⟨g1, g2, g3, g4, g5, g6, g7⟩ := hBi
    exact ⟨by rw [xi_no (by omega)]; exact g1, by rw [xi_no (by omega)]; exact g2, by rw [xi_no (by omega)]; exact g3, xi_eq _ _ _ _, by rw [xi_no (by omega)]; exact g5, Nat.zero_le _, fun k i hk => by cases hk⟩
  have hR := cK.2.2.1.setMemb (m := B.length) (by simp) hMI hU2
  simp only at hR
  rw [set_last] at hR
  have hU3 : Upd 119 236 K (xpi K (119 + 27 + 3 * B.length) 3 b.2.2.2.1) := hU2.wide (by omega) (by omega)
  obtain ⟨N, n1, n2, n3⟩ := s_K_wi hW hC hb hcl d6 hl20 A B (num (kC pr) d) (num (kQ pr d) j) b.2.2.1 b.2.2.2.1 b.2.2.2.2 0 [] _ (hU3.ctw cK hR) (Nat.zero_le _) rfl rfl FU (show _ < 5000 by omega)
  unfold g_K_writeMember
  rw [gR_e (by omega) s2 s11, gI_e (by omega) hMa.2.1, e1, ed, aR_e (by omega) s5 d6 (by decide) (s15 d d6).1, gR_e (by omega) s2 s10, gI_e (by omega) hMa.2.1, e1, ed, aI_e (by omega) s4 d6 (by decide), c.2.2.2.1.2.1 d d6, gI_e (by omega) hMa.2.1, e2, ej, aI_e (by omega) (s15 d d6).2 j20 (by decide), c.2.2.2.1.2.2 d j d6 j20, gI_e (by omega) hMa.2.1, e3, rv_e (by omega) c.p2.2.1, k1, cI_e,
    gR_e (by omega) cK.p2.2.1 cK.p2.2.2.2.2.2.1, aR_e (by omega) cK.p2.2.2.2.1 hB30 (by decide) hxB, gI_e (by omega) hMa'.2.1, f4, uZ_e (by omega) hBa.2.1 hok.2.2.1]
  refine ⟨N, n1, (hU.tr hU3).tr n2, ?_⟩
  have : nbV pr b = (num (kC pr) d, num (kQ pr d) j, b.2.2.1, b.2.2.2.1, [] ++ b.2.2.2.2.map (niV pr d)) := by
    unfold nbV
    rw [ed, ej, nI_clamp (by omega), nI_clamp (by omega)]
    rfl
  rw [this]
  exact n3
theorem s_K_write_m (hW : WF pr) (hC : Clo pr) (A : List (List CT)) : ∀ (t : List MB) (x : Nat) (B : List MB) (M : XM), CtW M pr (A, B) → x ≤ pr.2.length → pr.2.drop x = t → B.length ≤ x → ∀ n, t.length < n →
    ∃ N, g_K_write_57 n 236 2 119 (nI x) M = rV N ∧ Upd 119 236 M N ∧ CtW N pr (A, B ++ bM pr t x) := by
  intro t
  induction t with
  | nil =>
    intro x B M c hx hd hB n hn
    obtain ⟨n', rfl⟩ : ∃ n', n = n' + 1 := ⟨n - 1, by omega⟩
    have hlen := dropN hd hx
    have h30 := c.2.1.2.2.1
    have hzp := c.k.pg.1
    unfold g_K_write_57
    rw [gI_e (by omega) c.k.pg.2.1, c.2.1.2.2.2.1, if_pos (nI_le (by omega) (by omega))]
    refine ⟨M, rfl, Upd.rf, ?_⟩
    rw [show B ++ bM pr [] x = B from List.append_nil _]
    exact c
  | cons b t ih =>
    intro x B M c hx hd hB n hn
    obtain ⟨n', rfl⟩ : ∃ n', n = n' + 1 := ⟨n - 1, by omega⟩
    obtain ⟨hb, hd', hxl⟩ := dropC hd
    have h30 := c.2.1.2.2.1
    have hzp := c.k.pg.1
    obtain ⟨s1, s2, s3, s4, s5, s6, s7, s8, s9, s10, s11, s12, s13, s14, s15⟩ := id c.k.sh
    obtain ⟨hm30, hxr, hMa, hMi⟩ := c.2.1.memb c.k.pg hb
    simp only [List.length_cons] at hn
    unfold g_K_write_57
    rw [gI_e (by omega) c.k.pg.2.1, c.2.1.2.2.2.1, if_neg (nI_ge hxl (by omega)), gR_e (by omega) s2 s9, aI_e (by omega) s3 hm30 (by decide), c.2.2.2.1.1 x hm30, nI_1]
    by_cases hk : kM pr x = true
    · have hbm : bM pr (b :: t) x = [nbV pr b] ++ bM pr t (x + 1) := by show (if _ then _ else _) ++ _ = _; rw [if_pos hk]
      obtain ⟨K, k1, k2, k3⟩ := s_K_writeMember hW hC hb (show B.length < 30 by omega) c
      rw [if_neg (num_ne (by omega) hk), gR_e (by omega) c.k.pg.2.1 c.k.pg.2.2.2.2.2.1, aR_e (by omega) c.k.pg.2.2.2.1 hm30 (by decide) hxr, rv24 c.k, k1, cV_e]
      obtain ⟨N, n1, n2, n3⟩ := ih (x + 1) (B ++ [nbV pr b]) K k3 (by omega) hd' (by simp; omega) n' (by omega)
      refine ⟨N, n1, k2.tr n2, ?_⟩
      rw [hbm, ← List.append_assoc]
      exact n3
    · rw [if_pos (num_no hk), show bM pr (b :: t) x = bM pr t (x + 1) by show (if _ then _ else _) ++ _ = _; rw [if_neg hk]; rfl]
      exact ih (x + 1) B M c (by omega) hd' (by omega) n' (by omega)
theorem s_K_write_c (hW : WF pr) (hC : Clo pr) : ∀ (t : List (List CT)) (x : Nat) (A : List (List CT)) (M : XM), CtW M pr (A, []) → x ≤ pr.1.length → pr.1.drop x = t → A.length ≤ x → ∀ n, t.length < n →
    ∃ N, g_K_write_6 n 236 2 119 (nI x) M = rV N ∧ Upd 119 236 M N ∧ CtW N pr (A ++ bP pr t x, bM pr pr.2 0) := by
  intro t
  induction t with
  | nil =>
    intro x A M c hx hd hA n hn
    obtain ⟨n', rfl⟩ : ∃ n', n = n' + 1 := ⟨n - 1, by omega⟩
    have hlen := dropN hd hx
    have h6 := c.2.1.1
    have h30 := c.2.1.2.2.1
    have hzp := c.k.pg.1
    unfold g_K_write_6
    rw [gI_e (by omega) c.k.pg.2.1, c.2.1.2.1, if_pos (nI_le (by omega) (by omega))]
    obtain ⟨N, n1, n2, n3⟩ := s_K_write_m hW hC A pr.2 0 [] M c (Nat.zero_le _) rfl (Nat.zero_le _) FU (show _ < 5000 by omega)
    refine ⟨N, n1, n2, ?_⟩
    rw [show A ++ bP pr [] x = A from List.append_nil _]
    exact n3
  | cons cl t ih =>
    intro x A M c hx hd hA n hn
    obtain ⟨n', rfl⟩ : ∃ n', n = n' + 1 := ⟨n - 1, by omega⟩
    obtain ⟨hcl, hd', hxl⟩ := dropC hd
    have h6 := c.2.1.1
    have hzp := c.k.pg.1
    have hp2 := c.p2.1
    obtain ⟨s1, s2, s3, s4, s5, s6, s7, s8, s9, s10, s11, s12, s13, s14, s15⟩ := id c.k.sh
    obtain ⟨hc6, hxc, hPa, hPi⟩ := c.2.1.pool c.k.pg hcl
    have hl := hPi.1
    simp only [List.length_cons] at hn
    unfold g_K_write_6
    rw [gI_e (by omega) c.k.pg.2.1, c.2.1.2.1, if_neg (nI_ge hxl (by omega)), gR_e (by omega) s2 s10, aI_e (by omega) s4 hc6 (by decide), c.2.2.2.1.2.1 x hc6, nI_1]
    by_cases hk : kC pr x = true
    · have hbp : bP pr (cl :: t) x = [bC pr x cl 0] ++ bP pr t (x + 1) := by show (if _ then _ else _) ++ _ = _; rw [if_pos hk]
      obtain ⟨K, k1, k2, k3⟩ := s_P_startClass c.p2 c.2.2.1 (show A.length < 6 by omega)
      have hU : Upd 119 236 M K := k3.wide (by omega) (by omega)
      have cK := hU.ctw c k2
      have hpK := cK.p2.1
      have hlast : (A ++ [([] : List CT)])[A.length]? = some [] := by simp
      obtain ⟨hA6, hxA, hQa, hQi⟩ := cK.2.2.1.pool cK.p2 hlast
      obtain ⟨L, m1, m2, m3⟩ := s_K_wp hW hcl A [] cl 0 [] K cK (Nat.zero_le _) rfl (Nat.zero_le _) FU (show _ < 5000 by omega)
      rw [if_neg (num_ne (by omega) hk), gR_e (by omega) c.k.pg.2.1 c.k.pg.2.2.2.2.1, aR_e (by omega) c.k.pg.2.2.1 hc6 (by decide) hxc, gR_e (by omega) s2 s11, aR_e (by omega) s5 hc6 (by decide) (s15 x hc6).1, gR_e (by omega) c.p2.2.1 c.p2.2.2.2.2.1, rv_e (by omega) c.p2.2.1, k1, cI_e, aR_e (by omega) cK.p2.2.2.1 hA6 (by decide) hxA, rv24 cK.k]
      unfold g_K_writePool
      rw [show (0 : Int32) = nI 0 from rfl, m1, cV_e]
      rw [List.nil_append] at m3
      obtain ⟨N, n1, n2, n3⟩ := ih (x + 1) (A ++ [bC pr x cl 0]) L m3 (by omega) hd' (by simp; omega) n' (by omega)
      refine ⟨N, n1, (hU.tr m2).tr n2, ?_⟩
      rw [hbp, ← List.append_assoc]
      exact n3
    · rw [if_pos (num_no hk), show bP pr (cl :: t) x = bP pr t (x + 1) by show (if _ then _ else _) ++ _ = _; rw [if_neg hk]; rfl]
      exact ih (x + 1) A M c (by omega) hd' (by omega) n' (by omega)
/-- all of it -/
theorem s_K_rebuild (c : CtK M pr) (hW : WF pr) (hC : Clo pr) : ∃ N, g_K_rebuild 236 2 119 M = rV N ∧ Upd 119 249 M N ∧ CtW N pr (psV pr) := by
  have h30 := c.2.2.2.1
  have h6 := c.2.1
  obtain ⟨M1, a1, a2, a3, a4, a5⟩ := s_K_forget c
  have c1 := a2.ctk c
  obtain ⟨M2, b1, b2, b3, b4, b5⟩ := s_K_entries hW pr.2 0 M1 c1 a3 (Nat.zero_le _) rfl FU (show _ < 5000 by omega)
  have c2 := b2.ctk c1
  obtain ⟨M3, d1, d2, d3, d4, d5⟩ := s_K_reach hW hC 30 0 M2 (by omega) c2 b3 (fun j hj => by omega) FU (show 30 < 5000 by decide)
  have c3 := d2.ctk c2
  have hD : KpD M3 pr := KpD.of c.2.sz hW d3 (fun m hm => d4.1 m (by have := (Kept.entr hm).lt; omega) (b5 m (Nat.zero_le _) hm)) d5
  obtain ⟨M4, f1, f2, f3⟩ := s_K_closeUpAll c3 hW hC hD
  have c4 := (f2.wide (by omega) (by omega) : Upd 236 249 M3 M4).ctk c3
  have g6 : xi M4 246 = xi M1 246 := (f2.2.2.2.2.2 246 (by omega)).trans (d4.2.2.2.2.2.1.trans b4.2.2.2.2.2.1)
  have g7 : xi M4 247 = xi M1 247 := (f2.2.2.2.2.2 247 (by omega)).trans (d4.2.2.2.2.2.2.trans b4.2.2.2.2.2.2)
  obtain ⟨M5, l1, l2, l3⟩ := s_K_look hW hC pr.1 0 M4 c4 f3 (fun n hn => Or.inl (by rw [g7]; exact a5 n hn)) (fun d j cl q n hd => by omega) (Nat.zero_le _) rfl FU (show _ < 5000 by omega)
  have c5 := (l2.wide (by omega) (by omega) : Upd 236 249 M4 M5).ctk c4
  obtain ⟨M6, m1, m2, m3⟩ := s_K_give (pr := pr) 100 0 M5 (by omega) c5 l3 (fun k hk => by rw [if_neg (by omega), l2.2.2.2.2.2 246 (by omega), g6]; exact a4 k hk) FU (show 100 < 5000 by decide)
  have c6 := (m2.wide (by omega) (by omega) : Upd 236 249 M5 M6).ctk c5
  have hN6 : NumC M6 pr := (f3.up (l2.wide (by omega) (by omega))).up (m2.wide (by omega) (by omega))
  have hp2 : ProgAt M6 119 := c6.1.2.2.2.2.2.2.2.2.1
  have hz2 := hp2.1
  obtain ⟨M7, e1, e2, e3⟩ := s_P_empty hp2
  have hU7 : Upd 119 236 M6 M7 := e3.wide (by omega) (by omega)
  have c7 : CtW M7 pr ([], []) := ⟨hU7.lay c6.1, c6.2.congr fun b _ _ => hU7.2.2.2.2.2 b (by omega), e2, ⟨fun m hm => by rw [hU7.2.2.2.2.2 _ (by omega)]; exact hN6.1 m hm, fun m hm => by rw [hU7.2.2.2.2.2 _ (by omega)]; exact hN6.2.1 m hm, fun d j hd hj => by rw [hU7.2.2.2.2.2 _ (by omega)]; exact hN6.2.2 d j hd hj⟩, fun n hn => by rw [hU7.2.2.2.2.2 _ (by omega)]; exact m3 n hn⟩
  obtain ⟨N, n1, n2, n3⟩ := s_K_write_c hW hC pr.1 0 [] M7 c7 (Nat.zero_le _) rfl (Nat.zero_le _) FU (show _ < 5000 by omega)
  have hUK : Upd 236 249 M M6 := ((((a2.tr b2).tr d2).tr (f2.wide (by omega) (by omega))).tr (l2.wide (by omega) (by omega))).tr (m2.wide (by omega) (by omega))
  refine ⟨N, ?_, (hUK.wide (by omega) (by omega)).tr ((hU7.tr n2).wide (by omega) (by omega)), n3⟩
  unfold g_K_rebuild g_K_keepEntries g_K_keepReached g_K_lookAtNames g_K_giveNames g_K_write
  rw [rv24 c, a1, cV_e, rv24 c1, show (0 : Int32) = nI 0 from rfl, b1, cV_e, rv24 c2, d1, cV_e, rv24 c3, f1, cV_e, rv24 c4, l1, cV_e, rv24 c5]
  rw [show nx (eB pr) (uB pr) 0 = 0 from rfl] at m1
  rw [m1, cV_e, rv24 c6, rv_e (by omega) hp2.2.1, e1, cV_e, n1, cV_e]
end PWR
