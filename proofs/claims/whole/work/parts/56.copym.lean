/-! the reference copies members -/
def MembR (M : XM) (k : Nat) (ow nm ar en : Int32) (L : Nat) (acc : List IN) : Prop := xi M 275 (30 + k) = ow ∧ xi M 276 (30 + k) = nm ∧ xi M 277 (30 + k) = ar ∧ xi M 279 (30 + k) = en ∧ xi M 278 (30 + k) = nI L ∧ ∀ (j : Nat) (i : IN), acc[j]? = some i → xi M 280 (600 + 20 * k + j) = i.1 ∧ xi M 281 (600 + 20 * k + j) = i.2
theorem i30k (k : Nat) : 30 + nI k = nI (30 + k) := by rw [show (30 : Int32) = nI 30 from rfl, nI_add]
theorem i6k (k : Nat) : 6 + nI k = nI (6 + k) := by rw [show (6 : Int32) = nI 6 from rfl, nI_add]
section PCM
variable {M : XM} {pr : PR} {A : List (List CT)} {B : List MB} {ow nm ar en : Int32} {L : Nat} {acc : List IN}
theorem memb_app (h : RepR M 1 (A, B)) (hp : MembR M B.length ow nm ar en L acc) (hl : acc.length < 20) (w v : Int32) :
    MembR (xpi (xpi M 280 (600 + 20 * B.length + acc.length) w) 281 (600 + 20 * B.length + acc.length) v) B.length ow nm ar en L (acc ++ [(w, v)]) ∧ RepR (xpi (xpi M 280 (600 + 20 * B.length + acc.length) w) 281 (600 + 20 * B.length + acc.length) v) 1 (A, B) := by
  obtain ⟨p1, p2, p3, p4, p5, p6⟩ := hp
  obtain ⟨h1, h2, h3, h4, h5, h6⟩ := h
  refine ⟨⟨by simp (disch := decide) only [xi_ne1]; exact p1, by simp (disch := decide) only [xi_ne1]; exact p2, by simp (disch := decide) only [xi_ne1]; exact p3, by simp (disch := decide) only [xi_ne1]; exact p4, by simp (disch := decide) only [xi_ne1]; exact p5, fun j i hj => ?_⟩, h1, by simp (disch := decide) only [xi_ne1]; exact h2, h3, by simp (disch := decide) only [xi_ne1]; exact h4, fun d dl hd => by simp (disch := decide) only [xi_ne1]; exact h5 d dl hd, fun m b hm => ?_⟩
  · rcases snocC hj with ⟨hlt, h⟩ | ⟨rfl, rfl⟩
    · simp (disch := omega) only [xi_no]
      exact p6 j i h
    · rw [xi_eq, xi_ne1 (by decide), xi_eq]; exact ⟨rfl, rfl⟩
  · have hml : m < B.length := (List.getElem?_eq_some_iff.mp hm).1
    obtain ⟨f1, f2, f3, f4, f5, f6, f7⟩ := h6 m b hm
    simp (disch := decide) only [xi_ne1]
    refine ⟨f1, f2, f3, f4, f5, f6, fun k i hk => ?_⟩
    have hkl : k < b.2.2.2.2.length := (List.getElem?_eq_some_iff.mp hk).1
    simp (disch := omega) only [xi_no]
    exact f7 k i hk
theorem memb_end (h : RepR M 1 (A, B)) (hp : MembR M B.length ow nm ar en acc.length acc) (hl : acc.length ≤ 20) (hB : B.length < 30) : RepR (xpi M 270 1 (nI (B.length + 1))) 1 (A, B ++ [(ow, nm, ar, en, acc)]) := by
  obtain ⟨p1, p2, p3, p4, p5, p6⟩ := hp
  obtain ⟨h1, h2, h3, h4, h5, h6⟩ := h
  refine ⟨h1, by rw [xi_ne1 (by decide)]; exact h2, by simp; omega, by rw [xi_eq]; simp, fun d dl hd => by simp (disch := decide) only [xi_ne1]; exact h5 d dl hd, fun m b hm => ?_⟩
  simp (disch := decide) only [xi_ne1]
  rcases snocC hm with ⟨hlt, h⟩ | ⟨rfl, rfl⟩
  · exact h6 m b h
  · exact ⟨p1, p2, p3, p4, p5, hl, p6⟩
theorem s_R_cm (hW : WF pr) (hC : Clo pr) {m d : Nat} {b : MB} {cl : List CT} (hkm : Kept pr m) (hb : pr.2[m]? = some b) (hcl : lk pr.1 b.1 = some cl) (ed : b.1 = nI d) (d6 : d < 6) (hdl : pr.1[d]? = some cl) (hB : B.length < 30) : ∀ (t : List IN) (y : Nat) (acc : List IN) (M : XM), CtV M pr → RepR M 1 (A, B) → MembR M B.length ow nm ar en b.2.2.2.2.length acc → y ≤ b.2.2.2.2.length → b.2.2.2.2.drop y = t → acc.length = y → ∀ n, t.length < n →
    ∃ N, g_R_copyMember_93 n 268 (nI m) (nI (30 + B.length)) (nI y) M = rV N ∧ Up1 M N ∧ RepR N 1 (A, B ++ [(ow, nm, ar, en, acc ++ t.map (niV pr d))]) := by
  have hbm := List.mem_of_getElem? hb
  have hml : m < pr.2.length := (List.getElem?_eq_some_iff.mp hb).1
  intro t
  induction t with
  | nil =>
    intro y acc M c hR hp hy hd ha n hn
    obtain ⟨n', rfl⟩ : ∃ n', n = n' + 1 := ⟨n - 1, by omega⟩
    have hlen := dropN hd hy
    have hz := c.1.1.1
    have h30 := c.1.2.2.2.1
    obtain ⟨e1, e2, e3, e4, e5, e6, e7⟩ := c.1.2.2.2.2.2.2 m b hb
    rw [show 30 * 0 + m = m by omega] at e5
    unfold g_R_copyMember_93
    rw [gR_e (by omega) c.1.1.2.1 (r10 c.1.1).1, aI_e (by omega) (r10 c.1.1).2 (by omega) (by decide), e5, if_pos (nI_le (by omega) (by omega)), gR_e (by omega) c.1.1.2.1 (r2 c.1.1).1, show aI M 270 1 _ = _ from aI_e (i := 1) (by omega) (r2 c.1.1).2 (by decide) (by decide), hR.2.2.2.1]
    simp only
    rw [nI_1, show sI M 270 1 _ _ = _ from sI_e (i := 1) (by omega) (r2 c.1.1).2 (by decide) (by decide)]
    refine ⟨_, rfl, Up1.rf.pi (by omega) (by omega) (by decide), ?_⟩
    rw [List.map_nil, List.append_nil]
    exact memb_end hR (by rw [show acc.length = b.2.2.2.2.length by omega]; exact hp) (by omega) hB
  | cons i t ih =>
    intro y acc M c hR hp hy hd ha n hn
    obtain ⟨n', rfl⟩ : ∃ n', n = n' + 1 := ⟨n - 1, by omega⟩
    obtain ⟨hi, hd', hyl⟩ := dropC hd
    have hz := c.1.1.1
    have h30 := c.1.2.2.2.1
    obtain ⟨e1, e2, e3, e4, e5, e6, e7⟩ := c.1.2.2.2.2.2.2 m b hb
    obtain ⟨i1, i2⟩ := e7 y i hi
    rw [show 30 * 0 + m = m by omega] at e5 e1
    rw [show 600 * 0 + 20 * m + y = 20 * m + y by omega] at i1 i2
    have hl20 := (c.1.2.2.2.2.2.1 d cl hdl).1
    simp only [List.length_cons] at hn
    obtain ⟨at', hat⟩ : ∃ a, a = 600 + 20 * B.length + acc.length := ⟨_, rfl⟩
    have hU1 : Up1 M (xpi M 280 at' i.1) := Up1.rf.pi (by omega) (by omega) (show 600 ≤ _ by omega)
    have c1 := hU1.ctv c
    have z1 := c1.1.1.1
    have hfin : ∀ v, niV pr d i = (i.1, v) → ∃ N, (sI (xpi M 280 at' i.1) 281 (nI at') v fun M15 => g_R_copyMember_93 n' 268 (nI m) (nI (30 + B.length)) (nI y + 1) M15) = rV N ∧ Up1 M N ∧ RepR N 1 (A, B ++ [(ow, nm, ar, en, acc ++ (i :: t).map (niV pr d))]) := by
      intro v hv
      obtain ⟨pa, pb⟩ := memb_app hR hp (show acc.length < 20 by omega) i.1 v
      rw [← hat] at pa pb
      have hU2 : Up1 M (xpi (xpi M 280 at' i.1) 281 at' v) := hU1.pi (by omega) (by omega) (show 600 ≤ _ by omega)
      obtain ⟨N, n1, n2, n3⟩ := ih (y + 1) (acc ++ [(i.1, v)]) _ (hU2.ctv c) pb pa (by omega) hd' (by simp; omega) n' (by omega)
      rw [sI_e (by omega) (r13 c1.1.1).2 (show at' < 1200 by omega) (by decide), nI_1]
      refine ⟨N, n1, hU2.tr n2, ?_⟩
      rw [List.map_cons, hv, show acc ++ ((i.1, v) :: t.map (niV pr d)) = acc ++ [(i.1, v)] ++ t.map (niV pr d) by simp]
      exact n3
    unfold g_R_copyMember_93
    rw [gR_e (by omega) c.1.1.2.1 (r10 c.1.1).1, aI_e (by omega) (r10 c.1.1).2 (by omega) (by decide), e5, if_neg (nI_ge hyl (by omega)), gR_e (by omega) c.1.1.2.1 (r12 c.1.1).1, i20, aI_e (by omega) (r12 c.1.1).2 (by omega) (by decide), i1, gR_e (by omega) c.1.1.2.1 (r13 c.1.1).1, aI_e (by omega) (r13 c.1.1).2 (by omega) (by decide), i2, gR_e (by omega) c.1.1.2.1 (r12 c.1.1).1, i20, show 20 * (30 + B.length) + y = at' by omega, sI_e (by omega) (r12 c.1.1).2 (show at' < 1200 by omega) (by decide), gR_e (by omega) c1.1.1.2.1 (r13 c1.1.1).1, s_usesP, cI_e]
    by_cases hu : i.1 = 0 ∨ i.1 = 1 ∨ i.1 = 2 ∨ i.1 = 3
    · obtain ⟨p, q, ep, hp', -⟩ := use_const h30 hl20 hcl (hC b hbm i (List.mem_of_getElem? hi)) hu
      have hkc : KC pr d p := ⟨m, b, cl, hkm, hb, ed, hcl, Or.inr ⟨i, List.mem_of_getElem? hi, hu, Or.inl ep⟩⟩
      have f1 : xi (xpi M 280 at' i.1) 275 m = nI d := by rw [xi_ne1 (by decide), e1, ed]
      rw [decide_eq_true hu, if_neg (by decide), gR_e (by omega) c1.1.1.2.1 (r18 c1.1.1).1, gR_e (by omega) c1.1.1.2.1 (r7 c1.1.1).1, aI_e (by omega) (r7 c1.1.1).2 (by omega) (by decide), f1, base0, cI_e, ep, nI_add, aI_e (by omega) (r18 c1.1.1).2 (show 20 * d + p < 120 by omega) (by decide), c1.2.2.2.1.2.2 d cl p hdl hp']
      refine hfin _ ?_
      unfold niV useB
      rw [decide_eq_true hu, if_pos rfl, ep, nI_clamp (by omega)]
      unfold num
      rw [if_pos (kQ_t.mpr hkc)]
    · rw [decide_eq_false hu, if_pos (show bI false = 0 from rfl)]
      exact hfin _ (by unfold niV useB; rw [decide_eq_false hu, if_neg (by decide)])
theorem s_R_copyMember (c : CtV M pr) (hW : WF pr) (hC : Clo pr) {m : Nat} {b : MB} (hkm : Kept pr m) (hb : pr.2[m]? = some b) (hB : B.length < 30) (hR : RepR M 1 (A, B)) : ∃ N, g_R_copyMember 268 (nI m) M = rV N ∧ Up1 M N ∧ RepR N 1 (A, B ++ [nbV pr b]) := by
  have hbm := List.mem_of_getElem? hb
  have hok := hW.2 b hbm
  have hml : m < pr.2.length := (List.getElem?_eq_some_iff.mp hb).1
  obtain ⟨d, j, cl, d6, j20, ed, ej, hcl, hdl, hjl, hl20⟩ := okM.at c.1.2.sz hok
  have hdlt : d < pr.1.length := (List.getElem?_eq_some_iff.mp hdl).1
  have hz := c.1.1.1
  have h30 := c.1.2.2.2.1
  obtain ⟨e1, e2, e3, e4, e5, e6, e7⟩ := c.1.2.2.2.2.2.2 m b hb
  rw [show 30 * 0 + m = m by omega] at e1 e2 e3 e4 e5
  have hkc : KC pr d j := ⟨m, b, cl, hkm, hb, ed, hcl, Or.inl ej⟩
  have hU1 : Up1 M (xpi M 275 (30 + B.length) (num (kC pr) d)) := Up1.rf.pi (by omega) (by omega) (show 30 ≤ _ by omega)
  have hU2 : Up1 M (xpi (xpi M 275 (30 + B.length) (num (kC pr) d)) 276 (30 + B.length) (num (kQ pr d) j)) := hU1.pi (by omega) (by omega) (show 30 ≤ _ by omega)
  have hU3 : Up1 M (xpi (xpi (xpi M 275 (30 + B.length) (num (kC pr) d)) 276 (30 + B.length) (num (kQ pr d) j)) 277 (30 + B.length) b.2.2.1) := hU2.pi (by omega) (by omega) (show 30 ≤ _ by omega)
  have hU4 : Up1 M (xpi (xpi (xpi (xpi M 275 (30 + B.length) (num (kC pr) d)) 276 (30 + B.length) (num (kQ pr d) j)) 277 (30 + B.length) b.2.2.1) 278 (30 + B.length) (nI b.2.2.2.2.length)) := hU3.pi (by omega) (by omega) (show 30 ≤ _ by omega)
  have hU5 : Up1 M (xpi (xpi (xpi (xpi (xpi M 275 (30 + B.length) (num (kC pr) d)) 276 (30 + B.length) (num (kQ pr d) j)) 277 (30 + B.length) b.2.2.1) 278 (30 + B.length) (nI b.2.2.2.2.length)) 279 (30 + B.length) b.2.2.2.1) := hU4.pi (by omega) (by omega) (show 30 ≤ _ by omega)
  have c1 := hU1.ctv c
  have c2 := hU2.ctv c
  have c3 := hU3.ctv c
  have c4 := hU4.ctv c
  have c5 := hU5.ctv c
  have z1 := c1.1.1.1
  have z2 := c2.1.1.1
  have z3 := c3.1.1.1
  have z4 := c4.1.1.1
  have f1 := (hU1.2.2.2.2.2.2 275 m (show m < 30 by omega)).trans (e1.trans ed)
  have f2 := (hU1.2.2.2.2.2.2 276 m (show m < 30 by omega)).trans (e2.trans ej)
  have f3 := (hU2.2.2.2.2.2.2 277 m (show m < 30 by omega)).trans e3
  have f4 := (hU3.2.2.2.2.2.2 278 m (show m < 30 by omega)).trans e5
  have f5 := (hU4.2.2.2.2.2.2 279 m (show m < 30 by omega)).trans e4
  have hnum : nI (rk (kQ pr d) j) = num (kQ pr d) j := by unfold num; rw [if_pos (kQ_t.mpr hkc)]
  have hR5 : RepR (xpi (xpi (xpi (xpi (xpi M 275 (30 + B.length) (num (kC pr) d)) 276 (30 + B.length) (num (kQ pr d) j)) 277 (30 + B.length) b.2.2.1) 278 (30 + B.length) (nI b.2.2.2.2.length)) 279 (30 + B.length) b.2.2.2.1) 1 (A, B) := by
    obtain ⟨h1, h2, h3, h4, h5, h6⟩ := hR
    refine ⟨h1, by simp (disch := decide) only [xi_ne1]; exact h2, h3, by simp (disch := decide) only [xi_ne1]; exact h4, fun d dl hd => by simp (disch := decide) only [xi_ne1]; exact h5 d dl hd, fun k b' hk => ?_⟩
    have hkl : k < B.length := (List.getElem?_eq_some_iff.mp hk).1
    simp (disch := omega) only [xi_no]
    exact h6 k b' hk
  have hM5 : MembR (xpi (xpi (xpi (xpi (xpi M 275 (30 + B.length) (num (kC pr) d)) 276 (30 + B.length) (num (kQ pr d) j)) 277 (30 + B.length) b.2.2.1) 278 (30 + B.length) (nI b.2.2.2.2.length)) 279 (30 + B.length) b.2.2.2.1) B.length (num (kC pr) d) (num (kQ pr d) j) b.2.2.1 b.2.2.2.1 b.2.2.2.2.length [] := by
    refine ⟨?_, ?_, ?_, ?_, ?_, fun j i h => by cases h⟩
    · rw [xi_ne1 (by decide), xi_ne1 (by decide), xi_ne1 (by decide), xi_ne1 (by decide), xi_eq]
    · rw [xi_ne1 (by decide), xi_ne1 (by decide), xi_ne1 (by decide), xi_eq]
    · rw [xi_ne1 (by decide), xi_ne1 (by decide), xi_eq]
    · rw [xi_eq]
    · rw [xi_ne1 (by decide), xi_eq]
  obtain ⟨N, n1, n2, n3⟩ := s_R_cm hW hC hkm hb hcl ed d6 hdl hB b.2.2.2.2 0 [] _ c5 hR5 hM5 (Nat.zero_le _) rfl rfl FU (show _ < 5000 by omega)
  refine ⟨N, ?_, hU5.tr n2, ?_⟩
  · unfold g_R_copyMember
    rw [gR_e (by omega) c.1.1.2.1 (r2 c.1.1).1, show aI M 270 1 _ = _ from aI_e (i := 1) (by omega) (r2 c.1.1).2 (by decide) (by decide), hR.2.2.2.1]
    simp only
    rw [i30k, gR_e (by omega) c.1.1.2.1 (r7 c.1.1).1, gR_e (by omega) c.1.1.2.1 (r16 c.1.1).1, gR_e (by omega) c.1.1.2.1 (r7 c.1.1).1, aI_e (by omega) (r7 c.1.1).2 (by omega) (by decide), e1, ed, aI_e (by omega) (r16 c.1.1).2 d6 (by decide), c.2.2.2.1.2.1 d hdlt, sI_e (by omega) (r7 c.1.1).2 (show 30 + B.length < 60 by omega) (by decide),
      gR_e (by omega) c1.1.1.2.1 (r8 c1.1.1).1, gR_e (by omega) c1.1.1.2.1 (r18 c1.1.1).1, gR_e (by omega) c1.1.1.2.1 (r7 c1.1.1).1, aI_e (by omega) (r7 c1.1.1).2 (by omega) (by decide), f1, base0, cI_e, gR_e (by omega) c1.1.1.2.1 (r8 c1.1.1).1, aI_e (by omega) (r8 c1.1.1).2 (by omega) (by decide), f2, nI_add, aI_e (by omega) (r18 c1.1.1).2 (show 20 * d + j < 120 by omega) (by decide), c1.2.2.2.1.2.2 d cl j hdl hjl, hnum, sI_e (by omega) (r8 c1.1.1).2 (show 30 + B.length < 60 by omega) (by decide),
      gR_e (by omega) c2.1.1.2.1 (r9 c2.1.1).1, gR_e (by omega) c2.1.1.2.1 (r9 c2.1.1).1, aI_e (by omega) (r9 c2.1.1).2 (by omega) (by decide), f3, sI_e (by omega) (r9 c2.1.1).2 (show 30 + B.length < 60 by omega) (by decide), gR_e (by omega) c3.1.1.2.1 (r10 c3.1.1).1, gR_e (by omega) c3.1.1.2.1 (r10 c3.1.1).1, aI_e (by omega) (r10 c3.1.1).2 (by omega) (by decide), f4, sI_e (by omega) (r10 c3.1.1).2 (show 30 + B.length < 60 by omega) (by decide),
      gR_e (by omega) c4.1.1.2.1 (r11 c4.1.1).1, gR_e (by omega) c4.1.1.2.1 (r11 c4.1.1).1, aZ_e (by omega) (r11 c4.1.1).2 (by omega) (by decide), f5, sZ_e (by omega) (r11 c4.1.1).2 (show 30 + B.length < 60 by omega) (by decide) hok.2.2.1]
    exact n1
  · have : nbV pr b = (num (kC pr) d, num (kQ pr d) j, b.2.2.1, b.2.2.2.1, [] ++ b.2.2.2.2.map (niV pr d)) := by
      unfold nbV
      rw [ed, ej, nI_clamp (by omega), nI_clamp (by omega)]
      rfl
    rw [this]
    exact n3
theorem s_R_copy_m (hW : WF pr) (hC : Clo pr) : ∀ (t : List MB) (x : Nat) (B : List MB) (M : XM), CtV M pr → RepR M 1 (A, B) → x ≤ pr.2.length → pr.2.drop x = t → B.length ≤ x → ∀ n, t.length < n →
    ∃ N, g_R_copyKept_48 n 268 (nI x) M = rV N ∧ Up1 M N ∧ RepR N 1 (A, B ++ bM pr t x) := by
  intro t
  induction t with
  | nil =>
    intro x B M c hR hx hd hB n hn
    obtain ⟨n', rfl⟩ : ∃ n', n = n' + 1 := ⟨n - 1, by omega⟩
    have hlen := dropN hd hx
    have hz := c.1.1.1
    have h30 := c.1.2.2.2.1
    unfold g_R_copyKept_48
    rw [gR_e (by omega) c.1.1.2.1 (r2 c.1.1).1, aI_0 (by omega) (r2 c.1.1).2 (by decide) (by decide), c.1.2.2.2.2.1, if_pos (nI_le (by omega) (by omega))]
    refine ⟨M, rfl, Up1.rf, ?_⟩
    rw [show B ++ bM pr [] x = B from List.append_nil _]
    exact hR
  | cons b t ih =>
    intro x B M c hR hx hd hB n hn
    obtain ⟨n', rfl⟩ : ∃ n', n = n' + 1 := ⟨n - 1, by omega⟩
    obtain ⟨hb, hd', hxl⟩ := dropC hd
    have hz := c.1.1.1
    have h30 := c.1.2.2.2.1
    simp only [List.length_cons] at hn
    unfold g_R_copyKept_48
    rw [gR_e (by omega) c.1.1.2.1 (r2 c.1.1).1, aI_0 (by omega) (r2 c.1.1).2 (by decide) (by decide), c.1.2.2.2.2.1, if_neg (nI_ge hxl (by omega)), gR_e (by omega) c.1.1.2.1 (r15 c.1.1).1, aZ_e (by omega) (r15 c.1.1).2 (show x < 30 by omega) (by decide), c.2.1 x hxl, nI_1]
    by_cases hk : kM pr x = true
    · have hbm : bM pr (b :: t) x = [nbV pr b] ++ bM pr t (x + 1) := by show (if _ then _ else _) ++ _ = _; rw [if_pos hk]
      obtain ⟨K, k1, k2, k3⟩ := s_R_copyMember c hW hC (kM_t.mp hk) hb (show B.length < 30 by omega) hR
      rw [hk, if_neg (by decide), rv27 c.1.1, k1, cV_e]
      obtain ⟨N, n1, n2, n3⟩ := ih (x + 1) (B ++ [nbV pr b]) K (k2.ctv c) k3 (by omega) hd' (by simp; omega) n' (by omega)
      refine ⟨N, n1, k2.tr n2, ?_⟩
      rw [hbm, ← List.append_assoc]
      exact n3
    · rw [show kM pr x = false by simpa using hk, if_pos (show bI false = 0 from rfl), show bM pr (b :: t) x = bM pr t (x + 1) by show (if _ then _ else _) ++ _ = _; rw [if_neg hk]; rfl]
      exact ih (x + 1) B M c hR (by omega) hd' (by omega) n' (by omega)
theorem s_R_copy_c (hW : WF pr) (hC : Clo pr) : ∀ (t : List (List CT)) (x : Nat) (A : List (List CT)) (M : XM), CtV M pr → RepR M 1 (A, []) → x ≤ pr.1.length → pr.1.drop x = t → A.length ≤ x → ∀ n, t.length < n →
    ∃ N, g_R_copyKept_16 n 268 (nI x) M = rV N ∧ Up1 M N ∧ RepR N 1 (A ++ bP pr t x, bM pr pr.2 0) := by
  intro t
  induction t with
  | nil =>
    intro x A M c hR hx hd hA n hn
    obtain ⟨n', rfl⟩ : ∃ n', n = n' + 1 := ⟨n - 1, by omega⟩
    have hlen := dropN hd hx
    have hz := c.1.1.1
    have h6 := c.1.2.1
    have h30 := c.1.2.2.2.1
    unfold g_R_copyKept_16
    rw [gR_e (by omega) c.1.1.2.1 (r1 c.1.1).1, aI_0 (by omega) (r1 c.1.1).2 (by decide) (by decide), c.1.2.2.1, if_pos (nI_le (by omega) (by omega))]
    obtain ⟨N, n1, n2, n3⟩ := s_R_copy_m hW hC pr.2 0 [] M c hR (Nat.zero_le _) rfl (Nat.zero_le _) FU (show _ < 5000 by omega)
    refine ⟨N, n1, n2, ?_⟩
    rw [show A ++ bP pr [] x = A from List.append_nil _]
    exact n3
  | cons cl t ih =>
    intro x A M c hR hx hd hA n hn
    obtain ⟨n', rfl⟩ : ∃ n', n = n' + 1 := ⟨n - 1, by omega⟩
    obtain ⟨hcl, hd', hxl⟩ := dropC hd
    have hz := c.1.1.1
    have h6 := c.1.2.1
    have hl := (c.1.2.2.2.2.2.1 x cl hcl).1
    have hrk := rk_le (kC pr) x
    simp only [List.length_cons] at hn
    unfold g_R_copyKept_16
    rw [gR_e (by omega) c.1.1.2.1 (r1 c.1.1).1, aI_0 (by omega) (r1 c.1.1).2 (by decide) (by decide), c.1.2.2.1, if_neg (nI_ge hxl (by omega)), gR_e (by omega) c.1.1.2.1 (r16 c.1.1).1, aI_e (by omega) (r16 c.1.1).2 (show x < 6 by omega) (by decide), c.2.2.2.1.2.1 x hxl, nI_1]
    by_cases hk : kC pr x = true
    · have hbp : bP pr (cl :: t) x = [bC pr x cl 0] ++ bP pr t (x + 1) := by show (if _ then _ else _) ++ _ = _; rw [if_pos hk]
      have hA6 : A.length < 6 := by omega
      have hU : Up1 M (xpi M 271 (6 + A.length) 0) := Up1.rf.pi (by omega) (by omega) (show 6 ≤ _ by omega)
      have c1 := hU.ctv c
      have hR1 : RepR (xpi M 271 (6 + A.length) 0) 1 (A, []) := by
        obtain ⟨h1, h2, h3, h4, h5, h6'⟩ := hR
        refine ⟨h1, by rw [xi_ne1 (by decide)]; exact h2, h3, by rw [xi_ne1 (by decide)]; exact h4, fun d dl hd => ?_, fun m b hm => by cases hm⟩
        have hdl : d < A.length := (List.getElem?_eq_some_iff.mp hd).1
        obtain ⟨g1, g2, g3⟩ := h5 d dl hd
        exact ⟨g1, by rw [xi_no (by omega)]; exact g2, fun j q hq => by simp (disch := decide) only [xi_ne1]; exact g3 j q hq⟩
      obtain ⟨K, k1, k2, k3⟩ := s_R_cp hW hC hcl hA6 cl 0 [] _ c1 hR1 ⟨Nat.zero_le _, xi_eq _ _ _ _, fun j q hq => by cases hq⟩ (Nat.zero_le _) rfl (Nat.zero_le _) FU (show _ < 5000 by omega)
      rw [show num (kC pr) x = nI (rk (kC pr) x) by unfold num; rw [if_pos hk], if_neg (nI_pos (by omega)), rv27 c.1.1]
      unfold g_R_copyPool
      rw [gR_e (by omega) c.1.1.2.1 (r1 c.1.1).1, show aI M 269 1 _ = _ from aI_e (i := 1) (by omega) (r1 c.1.1).2 (by decide) (by decide), hR.2.1]
      simp only
      rw [i6k, gR_e (by omega) c.1.1.2.1 (r3 c.1.1).1, sI_e (by omega) (r3 c.1.1).2 (show 6 + A.length < 12 by omega) (by decide), base0, cI_e, show 20 * x = 20 * x + 0 by omega, k1, cV_e]
      rw [List.nil_append] at k3
      obtain ⟨N, n1, n2, n3⟩ := ih (x + 1) (A ++ [bC pr x cl 0]) K ((hU.tr k2).ctv c) k3 (by omega) hd' (by simp; omega) n' (by omega)
      refine ⟨N, n1, (hU.tr k2).tr n2, ?_⟩
      rw [hbp, ← List.append_assoc]
      exact n3
    · rw [num_no hk, if_pos (by decide), show bP pr (cl :: t) x = bP pr t (x + 1) by show (if _ then _ else _) ++ _ = _; rw [if_neg hk]; rfl]
      exact ih (x + 1) A M c hR (by omega) hd' (by omega) n' (by omega)
theorem s_R_copyKept (c : CtV M pr) (hW : WF pr) (hC : Clo pr) : ∃ N, g_R_copyKept 268 M = rV N ∧ Up1 M N ∧ RepR N 1 (psV pr) := by
  have hz := c.1.1.1
  have h6 := c.1.2.1
  have hA1 : RefAt (xpi M 269 1 0) := c.1.1
  have hz1 := hA1.1
  have hU : Up1 M (xpi (xpi M 269 1 0) 270 1 0) := (Up1.rf.pi (by omega) (by omega) (by decide)).pi (by omega) (by omega) (by decide)
  have hR : RepR (xpi (xpi M 269 1 0) 270 1 0) 1 ([], []) := ⟨Nat.zero_le _, by rw [xi_ne1 (by decide)]; exact xi_eq _ _ _ _, Nat.zero_le _, xi_eq _ _ _ _, (fun d dl h => by cases h), (fun m b h => by cases h)⟩
  obtain ⟨N, n1, n2, n3⟩ := s_R_copy_c hW hC pr.1 0 [] _ (hU.ctv c) hR (Nat.zero_le _) rfl (Nat.zero_le _) FU (show _ < 5000 by omega)
  refine ⟨N, ?_, hU.tr n2, n3⟩
  unfold g_R_copyKept
  rw [gR_e (by omega) c.1.1.2.1 (r1 c.1.1).1, show sI M 269 1 _ _ = _ from sI_e (i := 1) (by omega) (r1 c.1.1).2 (by decide) (by decide)]
  rw [gR_e (by omega) hA1.2.1 (r2 hA1).1, show sI (xpi M 269 1 0) 270 1 _ _ = _ from sI_e (i := 1) (by omega) (r2 hA1).2 (by decide) (by decide)]
  exact n1
end PCM
