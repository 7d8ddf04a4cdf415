/-! the reference marks constants -/
theorem base0 {M : XM} (d : Nat) : g_R_base 0 (nI d) M = rI (nI (20 * d)) M := (s_R_base (M := M) 0 d).trans (by rw [show 120 * 0 + 20 * d = 20 * d by omega])
def Mr (M : XM) (pr : PR) : Prop := ∀ c j, c < 6 → j < 20 → xi M 285 (20 * c + j) = 0 ∨ (xi M 285 (20 * c + j) = 1 ∧ KC pr c j)
def GM (M N : XM) : Prop := ∀ c j, c < 6 → j < 20 → ¬ xi M 285 (20 * c + j) = 0 → ¬ xi N 285 (20 * c + j) = 0
theorem GM.rf {M : XM} : GM M M := fun _ _ _ _ h => h
theorem GM.tr {M N K : XM} (h : GM M N) (g : GM N K) : GM M K := fun c j hc hj h1 => g c j hc hj (h c j hc hj h1)
theorem Mr.mark {M : XM} {pr : PR} (h : Mr M pr) {c j : Nat} (hc : c < 6) (hj : j < 20) (hk : KC pr c j) : Mr (xpi M 285 (20 * c + j) 1) pr ∧ GM M (xpi M 285 (20 * c + j) 1) ∧ ¬ xi (xpi M 285 (20 * c + j) 1) 285 (20 * c + j) = 0 := by
  refine ⟨fun d k hd hk' => ?_, fun d k hd hk' hn => ?_, by rw [xi_eq]; decide⟩
  · by_cases e : 20 * d + k = 20 * c + j
    · have e1 : d = c := by omega
      have e2 : k = j := by omega
      rw [e, xi_eq]; subst e1 e2; exact Or.inr ⟨rfl, hk⟩
    · rw [xi_no (by omega)]; exact h d k hd hk'
  · by_cases e : 20 * d + k = 20 * c + j
    · rw [e, xi_eq]; decide
    · rw [xi_no (by omega)]; exact hn
section PMK
variable {M : XM} {pr : PR}
def Nm (N : XM) (pr : PR) (m : Nat) : Prop := ∀ b c, pr.2[m]? = some b → b.1 = nI c → c < 6 → (∀ j, j < 20 → b.2.1 = nI j → ¬ xi N 285 (20 * c + j) = 0) ∧ ∀ i ∈ b.2.2.2.2, isUse i → ∀ p, p < 20 → i.2 = nI p → ¬ xi N 285 (20 * c + p) = 0
theorem Nm.gr {N K : XM} {m : Nat} (g : GM N K) (h : Nm N pr m) : Nm K pr m := fun b c hb ec hc => ⟨fun j hj e => g c j hc hj ((h b c hb ec hc).1 j hj e), fun i hi hu p hp e => g c p hc hp ((h b c hb ec hc).2 i hi hu p hp e)⟩
theorem s_R_mark_i (hW : WF pr) (hC : Clo pr) {x d : Nat} {b : MB} {cl : List CT} (hk : Kept pr x) (hb : pr.2[x]? = some b) (hcl : lk pr.1 b.1 = some cl) (ed : b.1 = nI d) (d6 : d < 6) (hl20 : cl.length ≤ 20) (r23 : Nat → Int32 → XM → XP) : ∀ (t : List IN) (y : Nat) (M : XM), CtQ M pr → Mr M pr → y ≤ b.2.2.2.2.length → b.2.2.2.2.drop y = t → ∀ n, t.length < n →
    ∃ N, g_R_markConstants_67 r23 n 268 (nI x) (nI y) M = r23 268 (nI x + 1) N ∧ Upd 285 286 M N ∧ Mr N pr ∧ GM M N ∧ ∀ i ∈ t, isUse i → ∀ p, p < 20 → i.2 = nI p → ¬ xi N 285 (20 * d + p) = 0 := by
  have hbm := List.mem_of_getElem? hb
  have hxl : x < pr.2.length := (List.getElem?_eq_some_iff.mp hb).1
  intro t
  induction t with
  | nil =>
    intro y M c h hy hd n hn
    obtain ⟨n', rfl⟩ : ∃ n', n = n' + 1 := ⟨n - 1, by omega⟩
    have hlen := dropN hd hy
    have hz := c.1.1
    have h30 := c.2.2.2.1
    obtain ⟨e1, e2, e3, e4, e5, e6, e7⟩ := c.2.2.2.2.2.2 x b hb
    rw [show 30 * 0 + x = x by omega] at e5
    unfold g_R_markConstants_67
    rw [gR_e (by omega) c.1.2.1 (r10 c.1).1, aI_e (by omega) (r10 c.1).2 (by omega) (by decide), e5, if_pos (nI_le (by omega) (by omega))]
    exact ⟨M, rfl, Upd.rf, h, GM.rf, fun i hi => by cases hi⟩
  | cons i t ih =>
    intro y M c h hy hd n hn
    obtain ⟨n', rfl⟩ : ∃ n', n = n' + 1 := ⟨n - 1, by omega⟩
    obtain ⟨hi, hd', hyl⟩ := dropC hd
    have hz := c.1.1
    have h30 := c.2.2.2.1
    obtain ⟨e1, e2, e3, e4, e5, e6, e7⟩ := c.2.2.2.2.2.2 x b hb
    rw [show 30 * 0 + x = x by omega] at e5 e1
    have e7' := e7 y i hi
    rw [show 600 * 0 + 20 * x + y = 20 * x + y by omega] at e7'
    simp only [List.length_cons] at hn
    unfold g_R_markConstants_67
    rw [gR_e (by omega) c.1.2.1 (r10 c.1).1, aI_e (by omega) (r10 c.1).2 (by omega) (by decide), e5, if_neg (nI_ge hyl (by omega)), gR_e (by omega) c.1.2.1 (r12 c.1).1, i20, aI_e (by omega) (r12 c.1).2 (by omega) (by decide), e7'.1, s_usesP, cI_e]
    by_cases hu : isUse i
    · obtain ⟨p, q, ep, hp, -⟩ := use_const h30 hl20 hcl (hC b hbm i (List.mem_of_getElem? hi)) hu
      obtain ⟨k1, k2, k3⟩ := h.mark d6 (show p < 20 by omega) ⟨x, b, cl, hk, hb, ed, hcl, Or.inr ⟨i, List.mem_of_getElem? hi, hu, Or.inl ep⟩⟩
      have hU : Upd 285 286 M (xpi M 285 (20 * d + p) 1) := Upd.rf.pi (by omega) (by omega)
      rw [decide_eq_true (show i.1 = 0 ∨ i.1 = 1 ∨ i.1 = 2 ∨ i.1 = 3 from hu), if_neg (by decide), gR_e (by omega) c.1.2.1 (r17 c.1).1, gR_e (by omega) c.1.2.1 (r7 c.1).1, aI_e (by omega) (r7 c.1).2 (by omega) (by decide), e1, ed, base0, cI_e, gR_e (by omega) c.1.2.1 (r13 c.1).1, aI_e (by omega) (r13 c.1).2 (by omega) (by decide), e7'.2, ep, nI_add, sZ_e (by omega) (r17 c.1).2 (show 20 * d + p < 120 by omega) (by decide) (Or.inr rfl), nI_1]
      obtain ⟨N, n1, n2, n3, n4, n5⟩ := ih (y + 1) _ ((hU.wide (by omega) (by omega) : Upd 282 289 M _).ctq c) k1 (by omega) hd' n' (by omega)
      refine ⟨N, n1, hU.tr n2, n3, k2.tr n4, fun i' hi' hu' p' hp' e' => ?_⟩
      rcases List.mem_cons.mp hi' with rfl | hi'
      · have : p = p' := (nI_eq (by omega) (by omega)).mp (ep.symm.trans e')
        subst this
        exact n4 d p d6 hp' k3
      · exact n5 i' hi' hu' p' hp' e'
    · rw [decide_eq_false (show ¬ (i.1 = 0 ∨ i.1 = 1 ∨ i.1 = 2 ∨ i.1 = 3) from hu), if_pos (show bI false = 0 from rfl), nI_1]
      obtain ⟨N, n1, n2, n3, n4, n5⟩ := ih (y + 1) M c h (by omega) hd' n' (by omega)
      refine ⟨N, n1, n2, n3, n4, fun i' hi' hu' p' hp' e' => ?_⟩
      rcases List.mem_cons.mp hi' with rfl | hi'
      · exact absurd hu' hu
      · exact n5 i' hi' hu' p' hp' e'
theorem KrD.up {N : XM} (h : xi N 283 = xi M 283) (hK : KrD M pr) : KrD N pr := fun m hm => by rw [h]; exact hK m hm
theorem s_R_mark_m (hW : WF pr) (hC : Clo pr) : ∀ (t : List MB) (x : Nat) (M : XM), CtQ M pr → KrD M pr → Mr M pr → x ≤ pr.2.length → pr.2.drop x = t → ∀ n, t.length < n →
    ∃ N, g_R_markConstants_23 n 268 (nI x) M = g_R_markConstants_136 FU 268 0 N ∧ Upd 285 286 M N ∧ Mr N pr ∧ GM M N ∧ ∀ m, x ≤ m → Kept pr m → Nm N pr m := by
  intro t
  induction t with
  | nil =>
    intro x M c hK h hx hd n hn
    obtain ⟨n', rfl⟩ : ∃ n', n = n' + 1 := ⟨n - 1, by omega⟩
    have hlen := dropN hd hx
    have hz := c.1.1
    have h30 := c.2.2.2.1
    unfold g_R_markConstants_23
    rw [gR_e (by omega) c.1.2.1 (r2 c.1).1, aI_0 (by omega) (r2 c.1).2 (by decide) (by decide), c.2.2.2.2.1, if_pos (nI_le (by omega) (by omega))]
    exact ⟨M, rfl, Upd.rf, h, GM.rf, fun m hm hk => by have := hk.lt; omega⟩
  | cons b t ih =>
    intro x M c hK h hx hd n hn
    obtain ⟨n', rfl⟩ : ∃ n', n = n' + 1 := ⟨n - 1, by omega⟩
    obtain ⟨hb, hd', hxl⟩ := dropC hd
    have hz := c.1.1
    have h30 := c.2.2.2.1
    obtain ⟨d, j, cl, d6, j20, ed, ej, hcl, hdl, hjl, hl20⟩ := okM.at c.2.sz (hW.2 b (List.mem_of_getElem? hb))
    have h20 := c.2.sz.2.2.2 b (List.mem_of_getElem? hb)
    obtain ⟨e1, e2, e3, e4, e5, e6, e7⟩ := c.2.2.2.2.2.2 x b hb
    rw [show 30 * 0 + x = x by omega] at e1 e2
    simp only [List.length_cons] at hn
    unfold g_R_markConstants_23
    rw [gR_e (by omega) c.1.2.1 (r2 c.1).1, aI_0 (by omega) (r2 c.1).2 (by decide) (by decide), c.2.2.2.2.1, if_neg (nI_ge hxl (by omega)), gR_e (by omega) c.1.2.1 (r15 c.1).1, aZ_e (by omega) (r15 c.1).2 (show x < 30 by omega) (by decide), hK x hxl]
    by_cases hk : Kept pr x
    · obtain ⟨k1, k2, k3⟩ := h.mark d6 j20 ⟨x, b, cl, hk, hb, ed, hcl, Or.inl ej⟩
      have hU : Upd 285 286 M (xpi M 285 (20 * d + j) 1) := Upd.rf.pi (by omega) (by omega)
      have c1 := (hU.wide (by omega) (by omega) : Upd 282 289 M _).ctq c
      rw [kM_t.mpr hk, if_neg (by decide), gR_e (by omega) c.1.2.1 (r17 c.1).1, gR_e (by omega) c.1.2.1 (r7 c.1).1, aI_e (by omega) (r7 c.1).2 (by omega) (by decide), e1, ed, base0, cI_e, gR_e (by omega) c.1.2.1 (r8 c.1).1, aI_e (by omega) (r8 c.1).2 (by omega) (by decide), e2, ej, nI_add, sZ_e (by omega) (r17 c.1).2 (show 20 * d + j < 120 by omega) (by decide) (Or.inr rfl)]
      obtain ⟨K, m1, m2, m3, m4, m5⟩ := s_R_mark_i hW hC hk hb hcl ed d6 hl20 (g_R_markConstants_23 n') b.2.2.2.2 0 _ c1 k1 (Nat.zero_le _) rfl FU (show _ < 5000 by omega)
      rw [show (0 : Int32) = nI 0 from rfl, m1, nI_1]
      obtain ⟨N, n1, n2, n3, n4, n5⟩ := ih (x + 1) K ((m2.wide (by omega) (by omega) : Upd 282 289 _ K).ctq c1) (hK.up (by rw [m2.2.2.2.2.2 283 (by omega), xi_row (by omega)])) m3 (by omega) hd' n' (by omega)
      refine ⟨N, n1, (hU.tr m2).tr n2, n3, (k2.tr m4).tr n4, fun m hm hkm => ?_⟩
      by_cases e : m = x
      · subst e
        intro b' d' hb' ed' hd6
        rw [hb] at hb'; cases hb'
        have : d = d' := (nI_eq (by omega) (by omega)).mp (ed.symm.trans ed')
        subst this
        refine ⟨fun j' hj' e => ?_, fun i hi hu p hp e => n4 d p d6 hp (m5 i hi hu p hp e)⟩
        have : j = j' := (nI_eq (by omega) (by omega)).mp (ej.symm.trans e)
        subst this
        exact n4 d j d6 j20 (m4 d j d6 j20 k3)
      · exact n5 m (by omega) hkm
    · rw [bf_t kM_t hk, if_pos (show bI false = 0 from rfl), nI_1]
      obtain ⟨N, n1, n2, n3, n4, n5⟩ := ih (x + 1) M c hK h (by omega) hd' n' (by omega)
      refine ⟨N, n1, n2, n3, n4, fun m hm hkm => ?_⟩
      by_cases e : m = x
      · subst e; exact absurd hkm hk
      · exact n5 m (by omega) hkm
/-- a constant with two places -/
theorem KC.two (hz : Sz pr) (hW : WF pr) (hC : Clo pr) {c j k : Nat} {cl : List CT} {q : CT} (hc : c < 6) (hj : j < 20) (hcl : pr.1[c]? = some cl) (hq : cl[j]? = some q) (h34 : q.1 = 3 ∨ q.1 = 4) (h : KC pr c j) (hk : q.2.1 = nI k ∨ q.2.2 = nI k) : KC pr c k := by
  obtain ⟨m, b, cl', hkm, hb, ec, hcl', hm⟩ := h
  have hbm := List.mem_of_getElem? hb
  have h6 := hz.1
  have e : cl' = cl := by
    rw [ec, lk_nI (by omega), hcl] at hcl'; cases hcl'; rfl
  subst e
  have hl := hz.2.2.1 cl' (lk_mem hcl')
  have n34 : ∀ {y : Int32}, q.1 = y → y = 0 ∨ y = 1 ∨ y = 2 → False := by
    intro y e1 e2
    rcases h34 with e | e <;> rw [e] at e1 <;> rcases e2 with e2 | e2 | e2 <;> rw [← e1] at e2 <;> exact absurd e2 (by decide)
  refine ⟨m, b, cl', hkm, hb, ec, hcl', ?_⟩
  rcases hm with e | ⟨i, hi, hu, hm⟩
  · obtain ⟨⟨cl2, q2, g1, g2, g3⟩, -⟩ := hW.2 b hbm
    rw [hcl'] at g1; cases g1
    rw [e, lk_nI (by omega), hq] at g2; cases g2
    exact absurd g3 (fun e => n34 e (Or.inr (Or.inl rfl)))
  · obtain ⟨p, q', ep, hp, hq', q0, q1⟩ := use_const hz.2.1 hl hcl' (hC b hbm i hi) hu
    rcases hm with e | ⟨hr, q2, hq2, e⟩
    · have : j = p := (nI_eq (by omega) (by omega)).mp (e.symm.trans ep)
      subst this
      rw [hq] at hq'; cases hq'
      have hr : isRef i := hu.resolve_left fun e0 => n34 (q0 e0) (Or.inl rfl)
      exact Or.inr ⟨i, hi, hu, Or.inr ⟨hr, q, by rw [ep, lk_nI (by omega)]; exact hq, hk⟩⟩
    · rw [ep, lk_nI (by omega), hq'] at hq2; cases hq2
      obtain ⟨j1, j2, l1, l2, ej1, ej2, ⟨r1, r1a, r1b⟩, r2, r2a, r2b⟩ := two_const hW (lk_mem hcl') hl (List.mem_of_getElem? hq') (by rw [(q1 hr).1]; exact refK_34 i)
      rcases e with e | e
      · have : j = j1 := (nI_eq (by omega) (by omega)).mp (e.symm.trans ej1)
        subst this
        rw [hq] at r1a; cases r1a
        exact absurd r1b (fun e => n34 e (Or.inr (Or.inr rfl)))
      · have : j = j2 := (nI_eq (by omega) (by omega)).mp (e.symm.trans ej2)
        subst this
        rw [hq] at r2a; cases r2a
        exact absurd r2b (fun e => n34 e (Or.inr (Or.inl rfl)))
def Tw (M N : XM) (pr : PR) (c j : Nat) : Prop := ∀ cl q k, pr.1[c]? = some cl → cl[j]? = some q → (q.1 = 3 ∨ q.1 = 4) → ¬ xi M 285 (20 * c + j) = 0 → k < 20 → (q.2.1 = nI k ∨ q.2.2 = nI k) → ¬ xi N 285 (20 * c + k) = 0
theorem kd_lt {n : Nat} {cl : List CT} {q : CT} (h : okC n cl q) : (q.1 < 3 ∧ ¬ (q.1 = 3 ∨ q.1 = 4)) ∨ (¬ q.1 < 3 ∧ (q.1 = 3 ∨ q.1 = 4)) := by
  rcases h with e | e | e | e
  · rw [e]; exact Or.inl (by decide)
  · rw [e.1]; exact Or.inl (by decide)
  · rw [e.1]; exact Or.inl (by decide)
  · rcases e.1 with e | e
    · rw [e]; exact Or.inr (by decide)
    · rw [e]; exact Or.inr (by decide)
theorem s_R_two_j (hW : WF pr) (hC : Clo pr) {x : Nat} {cl : List CT} (hcl : pr.1[x]? = some cl) (r136 : Nat → Int32 → XM → XP) : ∀ (t : List CT) (y : Nat) (M : XM), CtQ M pr → Mr M pr → y ≤ cl.length → cl.drop y = t → ∀ n, t.length < n →
    ∃ N, g_R_markConstants_152 r136 n 268 (nI x) (nI (20 * x + y)) M = r136 268 (nI x + 1) N ∧ Upd 285 286 M N ∧ Mr N pr ∧ GM M N ∧ ∀ j, y ≤ j → j < 20 → Tw M N pr x j := by
  intro t
  induction t with
  | nil =>
    intro y M c h hy hd n hn
    obtain ⟨n', rfl⟩ : ∃ n', n = n' + 1 := ⟨n - 1, by omega⟩
    have hlen := dropN hd hy
    have hz := c.1.1
    have h6 := c.2.1
    have hx : x < pr.1.length := (List.getElem?_eq_some_iff.mp hcl).1
    obtain ⟨hl, g2, -⟩ := c.2.2.2.2.2.1 x cl hcl
    rw [show 6 * 0 + x = x by omega] at g2
    unfold g_R_markConstants_152
    rw [base0, cI_e, gR_e (by omega) c.1.2.1 (r3 c.1).1, aI_e (by omega) (r3 c.1).2 (by omega) (by decide), g2, nI_add, if_pos (nI_le (by omega) (by omega))]
    exact ⟨M, rfl, Upd.rf, h, GM.rf, fun j hj _ cl' q k hcl' hq => by
      rw [hcl] at hcl'; cases hcl'
      have hjl : j < cl.length := (List.getElem?_eq_some_iff.mp hq).1
      omega⟩
  | cons q t ih =>
    intro y M c h hy hd n hn
    obtain ⟨n', rfl⟩ : ∃ n', n = n' + 1 := ⟨n - 1, by omega⟩
    obtain ⟨hq, hd', hyl⟩ := dropC hd
    have hz := c.1.1
    have h6 := c.2.1
    have hx : x < pr.1.length := (List.getElem?_eq_some_iff.mp hcl).1
    obtain ⟨hl, g2, g3⟩ := c.2.2.2.2.2.1 x cl hcl
    obtain ⟨q1, q2, q3⟩ := g3 y q hq
    rw [show 6 * 0 + x = x by omega] at g2
    rw [show 120 * 0 + 20 * x + y = 20 * x + y by omega] at q1 q2 q3
    simp only [List.length_cons] at hn
    unfold g_R_markConstants_152
    rw [base0, cI_e, gR_e (by omega) c.1.2.1 (r3 c.1).1, aI_e (by omega) (r3 c.1).2 (by omega) (by decide), g2, nI_add, if_neg (nI_ge (by omega) (by omega)), gR_e (by omega) c.1.2.1 (r17 c.1).1, aZ_e (by omega) (r17 c.1).2 (show 20 * x + y < 120 by omega) (by decide), nI_1]
    have skip : (¬ (q.1 = 3 ∨ q.1 = 4) ∨ xi M 285 (20 * x + y) = 0) → ∃ N, g_R_markConstants_152 r136 n' 268 (nI x) (nI (20 * x + y + 1)) M = r136 268 (nI x + 1) N ∧ Upd 285 286 M N ∧ Mr N pr ∧ GM M N ∧ ∀ j, y ≤ j → j < 20 → Tw M N pr x j := by
      intro hno
      obtain ⟨N, n1, n2, n3, n4, n5⟩ := ih (y + 1) M c h (by omega) hd' n' (by omega)
      refine ⟨N, n1, n2, n3, n4, fun j hj hj20 => ?_⟩
      by_cases e : j = y
      · subst e
        intro cl' q' k hcl' hq' h34 h0
        rw [hcl] at hcl'; cases hcl'
        rw [hq] at hq'; cases hq'
        rcases hno with e | e
        · exact absurd h34 e
        · exact absurd e h0
      · exact n5 j (by omega) hj20
    by_cases h0 : xi M 285 (20 * x + y) = 0
    · rw [if_pos h0]; exact skip (Or.inr h0)
    · rw [if_neg h0, gR_e (by omega) c.1.2.1 (r4 c.1).1, aI_e (by omega) (r4 c.1).2 (by omega) (by decide), q1]
      rcases kd_lt (hW.1 cl (List.mem_of_getElem? hcl) q (List.mem_of_getElem? hq)) with ⟨e1, e2⟩ | ⟨e1, e2⟩
      · rw [if_pos e1]; exact skip (Or.inl e2)
      · have hkc : KC pr x y := ((h x y (by omega) (by omega)).resolve_left h0).2
        obtain ⟨j1, j2, l1, l2, ej1, ej2, -⟩ := two_const hW (List.mem_of_getElem? hcl) hl (List.mem_of_getElem? hq) e2
        obtain ⟨a1, a2, a3⟩ := h.mark (show x < 6 by omega) (show j1 < 20 by omega) (KC.two c.2.sz hW hC (by omega) (by omega) hcl hq e2 hkc (Or.inl ej1))
        obtain ⟨b1, b2, b3⟩ := a1.mark (show x < 6 by omega) (show j2 < 20 by omega) (KC.two c.2.sz hW hC (by omega) (by omega) hcl hq e2 hkc (Or.inr ej2))
        have hA1 : RefAt (xpi M 285 (20 * x + j1) 1) := c.1
        have hz1 := hA1.1
        have q3' : xi (xpi M 285 (20 * x + j1) 1) 274 (20 * x + y) = q.2.2 := by rw [xi_ne1 (by decide)]; exact q3
        have hU : Upd 285 286 M (xpi (xpi M 285 (20 * x + j1) 1) 285 (20 * x + j2) 1) := (Upd.rf.pi (by omega) (by omega)).pi (by omega) (by omega)
        rw [if_neg e1, gR_e (by omega) c.1.2.1 (r17 c.1).1, base0, cI_e, gR_e (by omega) c.1.2.1 (r5 c.1).1, aI_e (by omega) (r5 c.1).2 (by omega) (by decide), q2, ej1, nI_add, sZ_e (by omega) (r17 c.1).2 (show 20 * x + j1 < 120 by omega) (by decide) (Or.inr rfl), gR_e (by omega) hA1.2.1 (r17 hA1).1, base0, cI_e, gR_e (by omega) hA1.2.1 (r6 hA1).1, aI_e (by omega) (r6 hA1).2 (by omega) (by decide), q3', ej2, nI_add, sZ_e (by omega) (r17 hA1).2 (show 20 * x + j2 < 120 by omega) (by decide) (Or.inr rfl)]
        obtain ⟨N, n1, n2, n3, n4, n5⟩ := ih (y + 1) _ ((hU.wide (by omega) (by omega) : Upd 282 289 M _).ctq c) b1 (by omega) hd' n' (by omega)
        refine ⟨N, n1, hU.tr n2, n3, (a2.tr b2).tr n4, fun j hj hj20 => ?_⟩
        by_cases e : j = y
        · subst e
          intro cl' q' k hcl' hq' h34 _ hk20 ek
          rw [hcl] at hcl'; cases hcl'
          rw [hq] at hq'; cases hq'
          rcases ek with ek | ek
          · have : k = j1 := (nI_eq (by omega) (by omega)).mp (ek.symm.trans ej1)
            subst this
            exact n4 x k (by omega) hk20 (b2 x k (by omega) hk20 a3)
          · have : k = j2 := (nI_eq (by omega) (by omega)).mp (ek.symm.trans ej2)
            subst this
            exact n4 x k (by omega) hk20 b3
        · intro cl' q' k hcl' hq' h34 h0' hk20 ek
          exact n5 j (by omega) hj20 cl' q' k hcl' hq' h34 ((a2.tr b2) x j (by omega) hj20 h0') hk20 ek
theorem s_R_two (hW : WF pr) (hC : Clo pr) : ∀ (t : List (List CT)) (x : Nat) (M : XM), CtQ M pr → Mr M pr → x ≤ pr.1.length → pr.1.drop x = t → ∀ n, t.length < n →
    ∃ N, g_R_markConstants_136 n 268 (nI x) M = rV N ∧ Upd 285 286 M N ∧ Mr N pr ∧ GM M N ∧ ∀ d j, x ≤ d → d < 6 → j < 20 → Tw M N pr d j := by
  intro t
  induction t with
  | nil =>
    intro x M c h hx hd n hn
    obtain ⟨n', rfl⟩ : ∃ n', n = n' + 1 := ⟨n - 1, by omega⟩
    have hlen := dropN hd hx
    have hz := c.1.1
    have h6 := c.2.1
    unfold g_R_markConstants_136
    rw [gR_e (by omega) c.1.2.1 (r1 c.1).1, aI_0 (by omega) (r1 c.1).2 (by decide) (by decide), c.2.2.1, if_pos (nI_le (by omega) (by omega))]
    exact ⟨M, rfl, Upd.rf, h, GM.rf, fun d j hd _ _ cl' q k hcl' => by
      have hdl : d < pr.1.length := (List.getElem?_eq_some_iff.mp hcl').1
      omega⟩
  | cons cl t ih =>
    intro x M c h hx hd n hn
    obtain ⟨n', rfl⟩ : ∃ n', n = n' + 1 := ⟨n - 1, by omega⟩
    obtain ⟨hcl, hd', hxl⟩ := dropC hd
    have hz := c.1.1
    have h6 := c.2.1
    have hl := (c.2.2.2.2.2.1 x cl hcl).1
    simp only [List.length_cons] at hn
    unfold g_R_markConstants_136
    rw [gR_e (by omega) c.1.2.1 (r1 c.1).1, aI_0 (by omega) (r1 c.1).2 (by decide) (by decide), c.2.2.1, if_neg (nI_ge hxl (by omega)), base0, cI_e]
    obtain ⟨K, k1, k2, k3, k4, k5⟩ := s_R_two_j hW hC hcl (g_R_markConstants_136 n') cl 0 M c h (Nat.zero_le _) rfl FU (show _ < 5000 by omega)
    rw [show 20 * x = 20 * x + 0 by omega, k1, nI_1]
    obtain ⟨N, n1, n2, n3, n4, n5⟩ := ih (x + 1) K ((k2.wide (by omega) (by omega) : Upd 282 289 M _).ctq c) k3 (by omega) hd' n' (by omega)
    refine ⟨N, n1, k2.tr n2, n3, k4.tr n4, fun d j hd hd6 hj => ?_⟩
    intro cl' q k hcl' hq h34 h0 hk ek
    by_cases e : d = x
    · subst e
      exact n4 d k hd6 hk (k5 j (Nat.zero_le _) hj cl' q k hcl' hq h34 h0 hk ek)
    · exact n5 d j (by omega) hd6 hj cl' q k hcl' hq h34 (k4 d j hd6 hj h0) hk ek
def MrD (M : XM) (pr : PR) : Prop := ∀ c j, c < 6 → j < 20 → xi M 285 (20 * c + j) = bI (kQ pr c j)
theorem s_R_mark (hW : WF pr) (hC : Clo pr) : ∀ (r x : Nat) (M : XM), x + r = 120 → CtQ M pr → KrD M pr → (∀ k, k < x → xi M 285 k = 0) → ∀ n, r < n →
    ∃ N, g_R_markConstants_2 n 268 (nI x) M = rV N ∧ Upd 285 286 M N ∧ MrD N pr := by
  intro r
  induction r with
  | zero =>
    intro x M hx c hK h n hn
    obtain ⟨n', rfl⟩ : ∃ n', n = n' + 1 := ⟨n - 1, by omega⟩
    have h30 := c.2.2.2.1
    have h6 := c.2.1
    have hM : Mr M pr := fun d j hd hj => Or.inl (h _ (by omega))
    obtain ⟨K, k1, k2, k3, k4, k5⟩ := s_R_mark_m hW hC pr.2 0 M c hK hM (Nat.zero_le _) rfl FU (show _ < 5000 by omega)
    obtain ⟨N, n1, n2, n3, n4, n5⟩ := s_R_two hW hC pr.1 0 K ((k2.wide (by omega) (by omega) : Upd 282 289 M _).ctq c) k3 (Nat.zero_le _) rfl FU (show _ < 5000 by omega)
    unfold g_R_markConstants_2
    rw [if_pos (show (120 : Int32) ≤ nI x from nI_le (a := 120) (by omega) (by omega)), show (0 : Int32) = nI 0 from rfl, k1, show (0 : Int32) = nI 0 from rfl, n1]
    refine ⟨N, rfl, k2.tr n2, fun d j hd hj => ?_⟩
    rcases n3 d j hd hj with e | ⟨e, hk⟩
    · rw [e, bf_t kQ_t fun hk => ?_]; rfl
      obtain ⟨m, b, cl, hkm, hb, ec, hcl, hm⟩ := hk
      obtain ⟨p1, p2⟩ := k5 m (Nat.zero_le _) hkm b d hb ec hd
      have hl := c.2.sz.2.2.1 cl (lk_mem hcl)
      rcases hm with e' | ⟨i, hi, hu, hm⟩
      · exact n4 d j hd hj (p1 j hj e') e
      · obtain ⟨p, q, ep, hp, hq, q0, q1⟩ := use_const h30 hl hcl (hC b (List.mem_of_getElem? hb) i hi) hu
        rcases hm with e' | ⟨hr, q', hq', e'⟩
        · exact n4 d j hd hj (p2 i hi hu j hj e') e
        · have hcl' : pr.1[d]? = some cl := by rw [ec, lk_nI (by omega)] at hcl; exact hcl
          rw [ep, lk_nI (by omega), hq] at hq'; cases hq'
          exact n5 d p (Nat.zero_le _) hd (by omega) cl q j hcl' hq (by rw [(q1 hr).1]; exact refK_34 i) (p2 i hi hu p (by omega) ep) hj e' e
    · rw [e, kQ_t.mpr hk]; rfl
  | succ r ih =>
    intro x M hx c hK h n hn
    obtain ⟨n', rfl⟩ : ∃ n', n = n' + 1 := ⟨n - 1, by omega⟩
    have hz := c.1.1
    unfold g_R_markConstants_2
    rw [if_neg (show ¬ (120 : Int32) ≤ nI x from nI_ge (b := 120) (by omega) (by omega)), gR_e (by omega) c.1.2.1 (r17 c.1).1, sZ_0 (by omega) (r17 c.1).2 (show x < 120 by omega) (by decide), nI_1]
    have hU : Upd 285 286 M (xpi M 285 x 0) := Upd.rf.pi (by omega) (by omega)
    obtain ⟨N, n1, n2, n3⟩ := ih (x + 1) (xpi M 285 x 0) (by omega) ((hU.wide (by omega) (by omega) : Upd 282 289 M _).ctq c) (hK.up (xi_row (by omega))) (fun k hk => by
      by_cases e : k = x
      · subst e; exact xi_eq _ _ _ _
      · rw [xi_no (by omega)]; exact h k (by omega)) n' (by omega)
    exact ⟨N, n1, hU.tr n2, n3⟩
end PMK
