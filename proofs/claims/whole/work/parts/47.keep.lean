/-! the class keeps all that it must -/
theorem use_const {pr : PR} {b : MB} {cl : List CT} {i : IN} (h30 : pr.2.length ≤ 30) (hl : cl.length ≤ 20) (hcl : lk pr.1 b.1 = some cl) (h : soundV pr b i = true) (hu : isUse i) : ∃ p q, i.2 = nI p ∧ p < cl.length ∧ cl[p]? = some q ∧ (i.1 = 0 → q.1 = 0) ∧ (isRef i → q.1 = refK i ∧ ∃ k, k < pr.2.length ∧ meantV pr cl i.2 (refK i) = nI k) := by
  unfold soundV at h
  rw [hcl] at h
  simp only [Option.getD_some] at h
  by_cases e0 : i.1 = 0
  · rw [if_pos e0] at h
    obtain ⟨q, hq, e⟩ := holds_some h
    obtain ⟨p, e1, e3, e2⟩ := lk_some (by omega) hq
    exact ⟨p, q, e1, e3, e2, fun _ => e, fun hr => by rcases hr with e | e | e <;> rw [e] at e0 <;> exact absurd e0 (by decide)⟩
  · have hr : isRef i := hu.resolve_left e0
    have h' : ¬ meantV pr cl i.2 (refK i) = -1 := by
      unfold refK
      by_cases e3 : i.1 = 3
      · rw [if_neg e0, if_neg (by rw [e3]; decide), if_pos e3] at h
        rw [if_pos e3]
        simpa using h
      · have e12 : i.1 = 1 ∨ i.1 = 2 := by rcases hr with e | e | e; exact Or.inl e; exact Or.inr e; exact absurd e e3
        rw [if_neg e0, if_pos e12] at h
        rw [if_neg e3]
        simpa using h
    have h'' := h'
    unfold meantV at h''
    split at h''
    · rename_i q hq
      split at h''
      · rename_i hk
        obtain ⟨p, e1, e3, e2⟩ := lk_some (by omega) hq
        refine ⟨p, q, e1, e3, e2, fun e => absurd e e0, fun _ => ⟨hk, ?_⟩⟩
        exact (meant_ge pr h30 cl i.2 (refK i)).resolve_left h'
      · exact absurd rfl h''
    · exact absurd rfl h''
theorem refK_34 (i : IN) : refK i = 3 ∨ refK i = 4 := by unfold refK; split; exact Or.inr rfl; exact Or.inl rfl
theorem two_const {pr : PR} {cl : List CT} {q : CT} (hW : WF pr) (hcl : cl ∈ pr.1) (hl : cl.length ≤ 20) (hq : q ∈ cl) (h : q.1 = 3 ∨ q.1 = 4) : ∃ j1 j2, j1 < cl.length ∧ j2 < cl.length ∧ q.2.1 = nI j1 ∧ q.2.2 = nI j2 ∧ (∃ r, cl[j1]? = some r ∧ r.1 = 2) ∧ ∃ r, cl[j2]? = some r ∧ r.1 = 1 := by
  have h34 : ∀ {x : Int32}, x = 3 ∨ x = 4 → ¬ x = 0 ∧ ¬ x = 1 ∧ ¬ x = 2 := by rintro x (rfl | rfl) <;> decide
  obtain ⟨n0, n1, n2⟩ := h34 h
  rcases hW.1 cl hcl q hq with e | e | e | ⟨-, ⟨r, r1, r2⟩, r', r3, r4⟩
  · exact absurd e n0
  · exact absurd e.1 n1
  · exact absurd e.1 n2
  · obtain ⟨j1, a1, a2, a3⟩ := lk_some (by omega) r1
    obtain ⟨j2, b1, b2, b3⟩ := lk_some (by omega) r3
    exact ⟨j1, j2, a2, b2, a1, b1, ⟨r, a3, r2⟩, r', b3, r4⟩
def Dn (N : XM) (pr : PR) (cl : List CT) (d : Nat) (i : IN) : Prop := (∀ j, j < 20 → MarkI cl i j → ¬ xi N (240 + d) j = -1) ∧ (isRef i → ∀ k, k < pr.2.length → meantV pr cl i.2 (refK i) = nI k → ¬ xi N 237 k = -1)
theorem Dn.gr {N K : XM} {pr : PR} {cl : List CT} {d : Nat} {i : IN} (h30 : pr.2.length ≤ 30) (hd : d < 6) (g : Gr N K) (h : Dn N pr cl d i) : Dn K pr cl d i :=
  ⟨fun j hj hm => g.2.2.1 d j hd hj (h.1 j hj hm), fun hr k hk e => g.1 k (by omega) (h.2 hr k hk e)⟩
def DnM (N : XM) (pr : PR) (m : Nat) : Prop := ∀ b cl d, pr.2[m]? = some b → lk pr.1 b.1 = some cl → b.1 = nI d → d < 6 → ∀ i ∈ b.2.2.2.2, Dn N pr cl d i
theorem DnM.gr {N K : XM} {pr : PR} {m : Nat} (h30 : pr.2.length ≤ 30) (g : Gr N K) (h : DnM N pr m) : DnM K pr m := fun b cl d h1 h2 h3 h4 i hi => (h b cl d h1 h2 h3 h4 i hi).gr h30 h4 g
section PKE
variable {M N : XM} {pr : PR}
theorem s_K_keepConstant (c : CtK M pr) (hW : WF pr) (h : Kp M pr) {m d : Nat} {b : MB} {cl : List CT} {i : IN} (hk : Kept pr m) (hb : pr.2[m]? = some b) (hcl : lk pr.1 b.1 = some cl) (ed : b.1 = nI d) (hdl : pr.1[d]? = some cl) (hi : i ∈ b.2.2.2.2) (hs : soundV pr b i = true) (hu : isUse i) :
    ∃ N, g_K_keepConstant 236 2 (nI d) i.2 M = rV N ∧ Upd 236 249 M N ∧ Kp N pr ∧ Gr M N ∧ Dn N pr cl d i := by
  have hS := c.sh
  have hP := c.pg
  have hz := hS.1
  have hzp := hP.1
  have h30 := c.2.2.2.1
  obtain ⟨s1, s2, s3, s4, s5, s6, s7, s8, s9, s10, s11, s12, s13, s14, s15⟩ := id hS
  obtain ⟨hc6, hxc, hPa, hPi⟩ := c.2.pool hP hdl
  have hzq := hPa.1
  have hl := hPi.1
  obtain ⟨p, q, ep, hp, hq, q0, q1⟩ := use_const h30 hl hcl hs hu
  have kc : ∀ j, MarkI cl i j → KC pr d j := fun j hm => ⟨m, b, cl, hk, hb, ed, hcl, Or.inr ⟨i, hi, hm⟩⟩
  obtain ⟨k1, g1⟩ := h.mark hc6 (show p < 20 by omega) (kc p ⟨hu, Or.inl ep⟩)
  have hU1 : Upd 236 249 M (xpi M (240 + d) p 0) := Upd.rf.pi (by omega) (by omega)
  have c1 := hU1.ctk c
  have hPi1 := (c1.2.pool c1.pg hdl).2.2.2
  unfold g_K_keepConstant
  rw [gR_e (by omega) hP.2.1 hP.2.2.2.2.1, aR_e (by omega) hP.2.2.1 hc6 (by decide) hxc, gR_e (by omega) s2 s11, aR_e (by omega) s5 hc6 (by decide) (s15 d hc6).1, ep, sI_e (by omega) (s15 d hc6).2 (by omega) (by decide), gR_e (M := xpi M _ _ _) (by show _ < xz M; omega) hPa.2.1 hPa.2.2.2.2.2.1, aI_e (M := xpi M _ _ _) (by show _ < xz M; omega) hPa.2.2.1 (by omega) (by decide), (hPi1.2.2 p q hq).1, s_hasTwo, cI_e]
  by_cases e0 : i.1 = 0
  · have nr : ¬ isRef i := by rintro (e | e | e) <;> rw [e] at e0 <;> exact absurd e0 (by decide)
    rw [q0 e0, if_pos (by decide)]
    refine ⟨_, rfl, hU1, k1, g1, fun j hj hm => ?_, fun hr => absurd hr nr⟩
    rcases hm.2 with e | ⟨hr, -⟩
    · have : j = p := (nI_eq (by omega) (by omega)).mp (e.symm.trans ep)
      subst this
      rw [xi_eq]; exact z_m1
    · exact absurd hr nr
  · have hr : isRef i := hu.resolve_left e0
    obtain ⟨qk, k, hkl, ek⟩ := q1 hr
    have q34 : q.1 = 3 ∨ q.1 = 4 := by rw [qk]; exact refK_34 i
    obtain ⟨j1, j2, l1, l2, ej1, ej2, -⟩ := two_const hW (lk_mem hcl) hl (List.mem_of_getElem? hq) q34
    have hlq : lk cl i.2 = some q := by rw [ep, lk_nI (by omega)]; exact hq
    obtain ⟨k2, g2⟩ := k1.mark hc6 (show j1 < 20 by omega) (kc j1 ⟨hu, Or.inr ⟨hr, q, hlq, Or.inl ej1⟩⟩)
    have hU2 : Upd 236 249 M (xpi (xpi M (240 + d) p 0) (240 + d) j1 0) := hU1.pi (by omega) (by omega)
    have c2 := hU2.ctk c
    have hPi2 := (c2.2.pool c2.pg hdl).2.2.2
    obtain ⟨k3, g3⟩ := k2.mark hc6 (show j2 < 20 by omega) (kc j2 ⟨hu, Or.inr ⟨hr, q, hlq, Or.inr ej2⟩⟩)
    have hU3 : Upd 236 249 M (xpi (xpi (xpi M (240 + d) p 0) (240 + d) j1 0) (240 + d) j2 0) := hU2.pi (by omega) (by omega)
    have c3 := hU3.ctk c
    have hkk : Kept pr k := hk.step ⟨hkl, b, cl, i, hb, hcl, hi, hr, ek⟩
    obtain ⟨N, n1, n2, n3, n4, n5⟩ := s_K_keepMember c3 hW k3 hkk
    have hmt : meantC pr cl (nI p) = nI k := by
      have hne : ¬ nI k = -1 := fun e => nI_pos (show k < 2 ^ 31 by omega) (by rw [e]; decide)
      rw [← ep, meant_kind (refK_34 i) (by rw [ek]; exact hne), ek]
    have hz3 := c3.pg.1
    rw [decide_eq_true q34, if_neg (by decide), gR_e (M := xpi M _ _ _) (by show _ < xz M; omega) s2 s11, aR_e (M := xpi M _ _ _) (by show _ < xz M; omega) s5 hc6 (by decide) (s15 d hc6).1, gR_e (M := xpi M _ _ _) (by show _ < xz M; omega) hPa.2.1 hPa.2.2.2.2.2.2.1, aI_e (M := xpi M _ _ _) (by show _ < xz M; omega) hPa.2.2.2.1 (by omega) (by decide), (hPi1.2.2 p q hq).2.1, ej1, sI_e (M := xpi M _ _ _) (by show _ < xz M; omega) (s15 d hc6).2 (by omega) (by decide),
      gR_e (M := xpi (xpi M _ _ _) _ _ _) (by show _ < xz M; omega) s2 s11, aR_e (M := xpi (xpi M _ _ _) _ _ _) (by show _ < xz M; omega) s5 hc6 (by decide) (s15 d hc6).1, gR_e (M := xpi (xpi M _ _ _) _ _ _) (by show _ < xz M; omega) hPa.2.1 hPa.2.2.2.2.2.2.2, aI_e (M := xpi (xpi M _ _ _) _ _ _) (by show _ < xz M; omega) hPa.2.2.2.2.1 (by omega) (by decide), (hPi2.2.2 p q hq).2.2, ej2, sI_e (M := xpi (xpi M _ _ _) _ _ _) (by show _ < xz M; omega) (s15 d hc6).2 (by omega) (by decide),
      rv_e (by omega) c3.pg.2.1, s_P_meant c3.pg c3.2 hW hdl, cI_e, hmt, rv24 c3, n1, cV_e]
    have gg := ((g1.tr g2).tr g3).tr n4
    refine ⟨N, rfl, hU3.tr n2, n3, gg, fun j hj hm => ?_, fun _ k' hk' e => ?_⟩
    · rcases hm.2 with e | ⟨-, q', hq', e⟩
      · have : j = p := (nI_eq (by omega) (by omega)).mp (e.symm.trans ep)
        subst this
        exact (g2.tr (g3.tr n4)).2.2.1 d j hc6 hj (by rw [xi_eq]; exact z_m1)
      · rw [hlq] at hq'
        cases hq'
        rcases e with e | e
        · have : j = j1 := (nI_eq (by omega) (by omega)).mp (e.symm.trans ej1)
          subst this
          exact (g3.tr n4).2.2.1 d j hc6 hj (by rw [xi_eq]; exact z_m1)
        · have : j = j2 := (nI_eq (by omega) (by omega)).mp (e.symm.trans ej2)
          subst this
          exact n4.2.2.1 d j hc6 hj (by rw [xi_eq]; exact z_m1)
    · rw [ek] at e
      have : k = k' := (nI_eq (by omega) (by omega)).mp e
      subst this
      exact n5
theorem s_K_reach_i (hW : WF pr) (hC : Clo pr) {m d : Nat} {b : MB} {cl : List CT} (hk : Kept pr m) (hb : pr.2[m]? = some b) (hcl : lk pr.1 b.1 = some cl) (ed : b.1 = nI d) (hdl : pr.1[d]? = some cl) (r2 : Nat → Nat → Int32 → XM → XP) (kk : Int32) : ∀ (t : List IN) (x : Nat) (M : XM), CtK M pr → Kp M pr → x ≤ b.2.2.2.2.length → b.2.2.2.2.drop x = t → ∀ n, t.length < n →
    ∃ N, g_K_keepReached_31 r2 n 236 2 kk (2 + 27 + 3 * m) (nI x) M = r2 236 2 (kk + 1) N ∧ Upd 236 249 M N ∧ Kp N pr ∧ Gr M N ∧ ∀ i ∈ t, Dn N pr cl d i := by
  intro t
  induction t with
  | nil =>
    intro x M c h hx hd n hn
    obtain ⟨n', rfl⟩ : ∃ n', n = n' + 1 := ⟨n - 1, by omega⟩
    have hlen := dropN hd hx
    obtain ⟨hm30, hxr, hMa, e1, e2, e3, e4, e5, e6, e7⟩ := c.2.memb c.pg hb
    have hza := hMa.1
    unfold g_K_keepReached_31
    rw [gI_e (by omega) hMa.2.1, e5, if_pos (nI_le (by omega) (by omega))]
    exact ⟨M, rfl, Upd.rf, h, Gr.rf, fun i hi => by cases hi⟩
  | cons i t ih =>
    intro x M c h hx hd n hn
    obtain ⟨n', rfl⟩ : ∃ n', n = n' + 1 := ⟨n - 1, by omega⟩
    obtain ⟨hxi, hd', hxl⟩ := dropC hd
    have hi : i ∈ b.2.2.2.2 := List.mem_of_getElem? hxi
    have hbm : b ∈ pr.2 := List.mem_of_getElem? hb
    have hc6 : d < 6 := (c.2.pool c.pg hdl).1
    have h30 := c.2.2.2.1
    obtain ⟨hm30, hxr, hMa, e1, e2, e3, e4, e5, e6, e7⟩ := c.2.memb c.pg hb
    have hza := hMa.1
    simp only [List.length_cons] at hn
    unfold g_K_keepReached_31
    rw [gI_e (by omega) hMa.2.1, e5, if_neg (nI_ge hxl (by omega)), gR_e (by omega) hMa.2.1 hMa.2.2.2.2.1, aI_e (by omega) hMa.2.2.1 (by omega) (by decide), (e7 x i hxi).1, s_uses, cI_e]
    by_cases hu : isUse i
    · rw [decide_eq_true (show i.1 = 0 ∨ i.1 = 1 ∨ i.1 = 2 ∨ i.1 = 3 from hu), if_neg (by decide), gI_e (by omega) hMa.2.1, e1, ed, gR_e (by omega) hMa.2.1 hMa.2.2.2.2.2, aI_e (by omega) hMa.2.2.2.1 (by omega) (by decide), (e7 x i hxi).2, rv24 c]
      obtain ⟨K, k1, k2, k3, k4, k5⟩ := s_K_keepConstant c hW h hk hb hcl ed hdl hi (hC b hbm i hi) hu
      rw [k1, cV_e, nI_1]
      obtain ⟨N, n1, n2, n3, n4, n5⟩ := ih (x + 1) K (k2.ctk c) k3 (by omega) hd' n' (by omega)
      refine ⟨N, n1, k2.tr n2, n3, k4.tr n4, fun i' hi' => ?_⟩
      rcases List.mem_cons.mp hi' with rfl | hi'
      · exact k5.gr h30 hc6 n4
      · exact n5 i' hi'
    · rw [decide_eq_false (show ¬ (i.1 = 0 ∨ i.1 = 1 ∨ i.1 = 2 ∨ i.1 = 3) from hu), if_pos (show bI false = 0 from rfl), nI_1]
      obtain ⟨N, n1, n2, n3, n4, n5⟩ := ih (x + 1) M c h (by omega) hd' n' (by omega)
      refine ⟨N, n1, n2, n3, n4, fun i' hi' => ?_⟩
      rcases List.mem_cons.mp hi' with rfl | hi'
      · exact ⟨fun j _ hm => absurd hm.1 hu, fun hr => absurd (Or.inr hr) hu⟩
      · exact n5 i' hi'
theorem s_K_reach (hW : WF pr) (hC : Clo pr) : ∀ (r k : Nat) (M : XM), k + r = 30 → CtK M pr → Kp M pr → (∀ j, j < k → j < kN M → ∀ m, m < 30 → xi M 248 j = nI m → DnM M pr m) → ∀ n, r < n →
    ∃ N, g_K_keepReached_2 n 236 2 (nI k) M = rV N ∧ Upd 236 249 M N ∧ Kp N pr ∧ Gr M N ∧ ∀ m, m < 30 → ¬ xi N 237 m = -1 → DnM N pr m := by
  intro r
  induction r with
  | zero =>
    intro k M hk c h hd n hn
    obtain ⟨n', rfl⟩ : ∃ n', n = n' + 1 := ⟨n - 1, by omega⟩
    have hz := c.sh.1
    have hle : kN M ≤ 30 := rk_le _ _
    unfold g_K_keepReached_2
    rw [gI_e (by omega) c.sh.2.1, h.2.2.2.1, if_pos (nI_le (by omega) (by omega))]
    refine ⟨M, rfl, Upd.rf, h, Gr.rf, fun m hm hn => ?_⟩
    obtain ⟨⟨j, j1, j2⟩, -⟩ := h.2.2.2.2.2 m hm hn
    exact hd j (by omega) j1 m hm j2
  | succ r ih =>
    intro k M hk c h hd n hn
    obtain ⟨n', rfl⟩ : ∃ n', n = n' + 1 := ⟨n - 1, by omega⟩
    have hz := c.sh.1
    have hle : kN M ≤ 30 := rk_le _ _
    have h30 := c.2.2.2.1
    unfold g_K_keepReached_2
    rw [gI_e (by omega) c.sh.2.1, h.2.2.2.1]
    by_cases hkk : kN M ≤ k
    · rw [if_pos (nI_le hkk (by omega))]
      refine ⟨M, rfl, Upd.rf, h, Gr.rf, fun m hm hn => ?_⟩
      obtain ⟨⟨j, j1, j2⟩, -⟩ := h.2.2.2.2.2 m hm hn
      exact hd j (by omega) j1 m hm j2
    · obtain ⟨m, m1, m2, m3⟩ := h.2.2.2.2.1 k (by omega)
      have hkm : Kept pr m := ((h.1 m m1).resolve_left m3).2
      have hmlt := hkm.lt
      have hb := List.getElem?_eq_getElem hmlt
      generalize pr.2[m] = b at hb
      obtain ⟨d, j, cl, d6, j20, ed, ej, hcl, hdl, hjl, hl20⟩ := okM.at c.2.sz (hW.2 b (List.mem_of_getElem? hb))
      obtain ⟨hm30, hxr, hMa, hMi⟩ := c.2.memb c.pg hb
      have hzp := c.pg.1
      have h20 := hMi.2.2.2.2.2.1
      rw [if_neg (nI_ge (by omega) (by omega)), if_neg (show ¬ (30 : Int32) ≤ nI k from nI_ge (b := 30) (by omega) (by omega)), gR_e (by omega) c.pg.2.1 c.pg.2.2.2.2.2.1, gR_e (by omega) c.sh.2.1 c.sh.2.2.2.2.2.2.2.2.2.2.2.2.2.1, aI_e (by omega) c.sh.2.2.2.2.2.2.2.1 (by omega) (by decide), m2, aR_e (by omega) c.pg.2.2.2.1 hm30 (by decide) hxr]
      obtain ⟨K, k1, k2, k3, k4, k5⟩ := s_K_reach_i hW hC hkm hb hcl ed hdl (g_K_keepReached_2 n') (nI k) b.2.2.2.2 0 M c h (Nat.zero_le _) rfl FU (show _ < 5000 by omega)
      rw [show (0 : Int32) = nI 0 from rfl, k1, nI_1]
      have hnew : ∀ j, j < k + 1 → j < kN K → ∀ m, m < 30 → xi K 248 j = nI m → DnM K pr m := by
        intro j hj hjk m' hm' e
        by_cases hjk' : j = k
        · subst hjk'
          rw [k4.2.2.2.2.1 j (by omega), m2] at e
          have : m = m' := (nI_eq (by omega) (by omega)).mp e
          subst this
          intro b' cl' d' hb' hcl' ed' hd' i hi
          rw [hb] at hb'
          cases hb'
          rw [hcl] at hcl'
          cases hcl'
          have : d = d' := (nI_eq (by omega) (by omega)).mp (ed.symm.trans ed')
          subst this
          exact k5 i hi
        · have hjM : j < kN M := by omega
          rw [k4.2.2.2.2.1 j hjM] at e
          exact (hd j (by omega) hjM m' hm' e).gr h30 k4
      obtain ⟨N, n1, n2, n3, n4, n5⟩ := ih (k + 1) K (by omega) (k2.ctk c) k3 hnew n' (by omega)
      exact ⟨N, n1, k2.tr n2, n3, k4.tr n4, n5⟩
theorem s_K_entries (hW : WF pr) : ∀ (t : List MB) (x : Nat) (M : XM), CtK M pr → Kp M pr → x ≤ pr.2.length → pr.2.drop x = t → ∀ n, t.length < n →
    ∃ N, g_K_keepEntries_2 n 236 2 (nI x) M = rV N ∧ Upd 236 249 M N ∧ Kp N pr ∧ Gr M N ∧ ∀ m, x ≤ m → Entr pr m → ¬ xi N 237 m = -1 := by
  intro t
  induction t with
  | nil =>
    intro x M c h hx hd n hn
    obtain ⟨n', rfl⟩ : ∃ n', n = n' + 1 := ⟨n - 1, by omega⟩
    have hlen := dropN hd hx
    have h30 := c.2.2.2.1
    have hzp := c.pg.1
    unfold g_K_keepEntries_2
    rw [gI_e (by omega) c.pg.2.1, c.2.2.2.2.1, if_pos (nI_le (by omega) (by omega))]
    exact ⟨M, rfl, Upd.rf, h, Gr.rf, fun m hm ⟨b, hb, _⟩ => by have hbl : m < pr.2.length := (List.getElem?_eq_some_iff.mp hb).1; omega⟩
  | cons b t ih =>
    intro x M c h hx hd n hn
    obtain ⟨n', rfl⟩ : ∃ n', n = n' + 1 := ⟨n - 1, by omega⟩
    obtain ⟨hb, hd', hxl⟩ := dropC hd
    have h30 := c.2.2.2.1
    have hzp := c.pg.1
    obtain ⟨hm30, hxr, hMa, e1, e2, e3, e4, e5, e6, e7⟩ := c.2.memb c.pg hb
    have hza := hMa.1
    simp only [List.length_cons] at hn
    unfold g_K_keepEntries_2
    rw [gI_e (by omega) c.pg.2.1, c.2.2.2.2.1, if_neg (nI_ge hxl (by omega)), gR_e (by omega) c.pg.2.1 c.pg.2.2.2.2.2.1, aR_e (by omega) c.pg.2.2.2.1 hm30 (by decide) hxr, gI_e (by omega) hMa.2.1, e4, nI_1]
    by_cases h0 : b.2.2.2.1 = 0
    · rw [if_pos h0]
      obtain ⟨N, n1, n2, n3, n4, n5⟩ := ih (x + 1) M c h (by omega) hd' n' (by omega)
      refine ⟨N, n1, n2, n3, n4, fun m hm he => ?_⟩
      by_cases hmx : m = x
      · subst hmx
        obtain ⟨b', hb', h'⟩ := he
        rw [hb] at hb'; cases hb'
        exact absurd h0 h'
      · exact n5 m (by omega) he
    · have hke : Kept pr x := Kept.entr ⟨b, hb, h0⟩
      obtain ⟨K, k1, k2, k3, k4, k5⟩ := s_K_keepMember c hW h hke
      rw [if_neg h0, rv24 c, k1, cV_e]
      obtain ⟨N, n1, n2, n3, n4, n5⟩ := ih (x + 1) K (k2.ctk c) k3 (by omega) hd' n' (by omega)
      refine ⟨N, n1, k2.tr n2, n3, k4.tr n4, fun m hm he => ?_⟩
      by_cases hmx : m = x
      · subst hmx
        exact n4.1 m hm30 k5
      · exact n5 m (by omega) he
end PKE
