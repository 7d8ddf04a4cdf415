/-! the reference reaches -/
def CtQ (M : XM) (pr : PR) : Prop := RefAt M ∧ RepR M 0 pr
theorem Upd.ctq {M N : XM} {pr : PR} (h : Upd 282 289 M N) (c : CtQ M pr) : CtQ N pr := ⟨RefAt.up h c.1, c.2.congr fun b _ _ => h.2.2.2.2.2 b (by omega)⟩
def Kr (M : XM) (pr : PR) : Prop := ∀ m, m < pr.2.length → xi M 283 m = 0 ∨ (xi M 283 m = 1 ∧ Kept pr m)
def kR (M : XM) (pr : PR) : Nat := rk (fun m => decide (¬ xi M 283 m = 0)) pr.2.length
def GrR (M N : XM) (pr : PR) : Prop := (∀ m, m < pr.2.length → ¬ xi M 283 m = 0 → ¬ xi N 283 m = 0) ∧ kR M pr ≤ kR N pr
theorem GrR.rf {M : XM} {pr : PR} : GrR M M pr := ⟨fun _ _ h => h, Nat.le_refl _⟩
theorem GrR.tr {M N K : XM} {pr : PR} (h : GrR M N pr) (g : GrR N K pr) : GrR M K pr := ⟨fun m hm h1 => g.1 m hm (h.1 m hm h1), Nat.le_trans h.2 g.2⟩
theorem s_usesP {M : XM} (x : Int32) : g_R_usesPool x M = rB (decide (x = 0 ∨ x = 1 ∨ x = 2 ∨ x = 3)) M := s_uses x
def DnR (N : XM) (pr : PR) (cl : List CT) (i : IN) : Prop := isRef i → ∀ k, k < pr.2.length → meantV pr cl i.2 (refK i) = nI k → ¬ xi N 283 k = 0
section PRE
variable {M : XM} {pr : PR}
theorem s_R_reach_1 (c : CtQ M pr) (hW : WF pr) (h : Kr M pr) {x d y : Nat} {b : MB} {cl : List CT} {i : IN} (hx : Kept pr x) (hb : pr.2[x]? = some b) (hcl : lk pr.1 b.1 = some cl) (ed : b.1 = nI d) (hdl : pr.1[d]? = some cl) (hy : b.2.2.2.2[y]? = some i) (hs : soundV pr b i = true) (hr : isRef i) (r32 : Nat → Int32 → XM → XP) (r40 : Nat → Int32 → Int32 → XM → XP) (r52 : Nat → Int32 → Int32 → Int32 → XM → XP) (f : Bool) :
    ∃ N f', g_R_reach_102 r32 r40 r52 268 (bI f) (nI x) (nI y) i.1 M = r52 268 (bI f') (nI x) (nI y + 1) N ∧ Upd 283 284 M N ∧ Kr N pr ∧ GrR M N pr ∧ DnR N pr cl i ∧ (f' = false → f = false ∧ ∀ m, m < pr.2.length → xi N 283 m = xi M 283 m) ∧ (f' = true → f = true ∨ kR M pr < kR N pr) := by
  have hz := c.1.1
  have h30 := c.2.2.2.1
  have hxl : x < pr.2.length := (List.getElem?_eq_some_iff.mp hb).1
  obtain ⟨e1, e2, e3, e4, e5, e6, e7⟩ := c.2.2.2.2.2.2 x b hb
  have hyl : y < b.2.2.2.2.length := (List.getElem?_eq_some_iff.mp hy).1
  rw [show 30 * 0 + x = x by omega] at e1
  have e7' := (e7 y i hy).2
  rw [show 600 * 0 + 20 * x + y = 20 * x + y by omega] at e7'
  have hl := (c.2.2.2.2.2.1 d cl hdl).1
  obtain ⟨p, q, ep, hp, hq, -, q1⟩ := use_const h30 hl hcl hs (Or.inr hr)
  obtain ⟨-, k, hk, ek⟩ := q1 hr
  have hkk : Kept pr k := hx.step ⟨hk, b, cl, i, hb, hcl, List.mem_of_getElem? hy, hr, ek⟩
  have hdn : ∀ N, ¬ xi N 283 k = 0 → DnR N pr cl i := by
    intro N hN _ k' hk' e
    rw [ek] at e
    have : k = k' := (nI_eq (by omega) (by omega)).mp e
    subst this
    exact hN
  have h156 : ∀ v : Int32, g_R_reach_156 r32 r40 r52 268 (nI x) (nI y) (nI k) v M = r52 268 v (nI x) (nI y + 1) (xpi M 283 k 1) := by
    intro v
    unfold g_R_reach_156
    rw [gR_e (by omega) c.1.2.1 (r15 c.1).1, sZ_e (by omega) (r15 c.1).2 (show k < 30 by omega) (by decide) (Or.inr rfl)]
  have hU : Upd 283 284 M (xpi M 283 k 1) := Upd.rf.pi (by omega) (by omega)
  have hK : Kr (xpi M 283 k 1) pr := by
    intro m hm
    by_cases e : m = k
    · subst e; rw [xi_eq]; exact Or.inr ⟨rfl, hkk⟩
    · rw [xi_no (by omega)]; exact h m hm
  have hsame : ¬ xi M 283 k = 0 → ∀ m, m < pr.2.length → xi (xpi M 283 k 1) 283 m = xi M 283 m := by
    intro h0 m hm
    by_cases e : m = k
    · subst e; rw [xi_eq]; exact ((h m hm).resolve_left h0).1.symm
    · rw [xi_no (by omega)]
  have hcount : xi M 283 k = 0 → kR (xpi M 283 k 1) pr = kR M pr + 1 := by
    intro h0
    exact rk_add (m := k) (by simp [h0]) (by simp [xi_eq]) (fun j hj => by rw [xi_no (by omega)]) hk
  have hkr : kR M pr ≤ kR (xpi M 283 k 1) pr := by
    by_cases h0 : xi M 283 k = 0
    · rw [hcount h0]; omega
    · exact Nat.le_of_eq (rk_congr fun m hm => by rw [hsame h0 m hm])
  have hG : GrR M (xpi M 283 k 1) pr := ⟨fun m hm hn => by
    by_cases e : m = k
    · subst e; rw [xi_eq]; decide
    · rw [xi_no (by omega)]; exact hn, hkr⟩
  have hD : DnR (xpi M 283 k 1) pr cl i := hdn _ (by rw [xi_eq]; decide)
  have h132 : ∀ kd : Int32, kd = refK i → g_R_reach_132 r32 r40 r52 268 (bI f) (nI x) (nI y) 268 0 (nI d) i.2 kd M = r52 268 (bI (f || decide (xi M 283 k = 0))) (nI x) (nI y + 1) (xpi M 283 k 1) := by
    intro kd hkd
    unfold g_R_reach_132
    rw [rv27 c.1, show g_R_meant 268 0 (nI d) i.2 kd M = rI (meantV pr cl i.2 kd) M from s_R_meant (p := 0) c.1 (by decide) c.2 hW hdl i.2 kd (by rw [hkd]; exact refK_34 i), cI_e, hkd, ek]
    cases f with
    | true =>
      rw [if_pos (by decide)]
      unfold g_R_reach_151
      rw [h156]; simp; rfl
    | false =>
      rw [if_neg (fun h => h rfl), gR_e (by omega) c.1.2.1 (r15 c.1).1, aZ_e (by omega) (r15 c.1).2 (show k < 30 by omega) (by decide)]
      by_cases h0 : xi M 283 k = 0
      · rw [if_neg (fun h => h h0)]
        unfold g_R_reach_151
        rw [h156, decide_eq_true h0]; rfl
      · rw [if_pos h0, h156, decide_eq_false h0]; rfl
  refine ⟨xpi M 283 k 1, f || decide (xi M 283 k = 0), ?_, hU, hK, hG, hD, fun hf => ?_, fun hf => ?_⟩
  · unfold g_R_reach_102
    rw [gR_e (by omega) c.1.2.1 (r7 c.1).1, aI_e (by omega) (r7 c.1).2 (by omega) (by decide), e1, ed, gR_e (by omega) c.1.2.1 (r13 c.1).1, i20, aI_e (by omega) (r13 c.1).2 (by omega) (by decide), e7']
    by_cases e3 : i.1 = 3
    · rw [if_neg (fun h => h e3)]
      exact h132 4 (by unfold refK; rw [if_pos e3])
    · rw [if_pos e3]
      exact h132 3 (by unfold refK; rw [if_neg e3])
  · rw [Bool.or_eq_false_iff] at hf
    exact ⟨hf.1, hsame (by simpa using hf.2)⟩
  · rw [Bool.or_eq_true] at hf
    rcases hf with hf | hf
    · exact Or.inl hf
    · exact Or.inr (by rw [hcount (by simpa using hf)]; omega)
theorem s_R_reach_i (hW : WF pr) (hC : Clo pr) {x d : Nat} {b : MB} {cl : List CT} (hb : pr.2[x]? = some b) (hcl : lk pr.1 b.1 = some cl) (ed : b.1 = nI d) (hdl : pr.1[d]? = some cl) (r32 : Nat → Int32 → XM → XP) (r40 : Nat → Int32 → Int32 → XM → XP) : ∀ (t : List IN) (y : Nat) (M : XM) (f : Bool), CtQ M pr → Kr M pr → y ≤ b.2.2.2.2.length → b.2.2.2.2.drop y = t → ∀ n, t.length < n →
    ∃ N f', g_R_reach_52 r32 r40 n 268 (bI f) (nI x) (nI y) M = r40 268 (bI f') (nI x + 1) N ∧ Upd 283 284 M N ∧ Kr N pr ∧ GrR M N pr ∧ (f' = false → f = false ∧ (∀ m, m < pr.2.length → xi N 283 m = xi M 283 m) ∧ (¬ xi N 283 x = 0 → ∀ i ∈ t, DnR N pr cl i)) ∧ (f' = true → f = true ∨ kR M pr < kR N pr) := by
  have hbm := List.mem_of_getElem? hb
  have hxl : x < pr.2.length := (List.getElem?_eq_some_iff.mp hb).1
  intro t
  induction t with
  | nil =>
    intro y M f c h hy hd n hn
    obtain ⟨n', rfl⟩ : ∃ n', n = n' + 1 := ⟨n - 1, by omega⟩
    have hlen := dropN hd hy
    have hz := c.1.1
    have h30 := c.2.2.2.1
    obtain ⟨e1, e2, e3, e4, e5, e6, e7⟩ := c.2.2.2.2.2.2 x b hb
    rw [show 30 * 0 + x = x by omega] at e5
    unfold g_R_reach_52
    rw [gR_e (by omega) c.1.2.1 (r10 c.1).1, aI_e (by omega) (r10 c.1).2 (by omega) (by decide), e5, if_pos (nI_le (by omega) (by omega))]
    exact ⟨M, f, rfl, Upd.rf, h, GrR.rf, fun hf => ⟨hf, fun _ _ => rfl, fun _ i hi => by cases hi⟩, fun hf => Or.inl hf⟩
  | cons i t ih =>
    intro y M f c h hy hd n hn
    obtain ⟨n', rfl⟩ : ∃ n', n = n' + 1 := ⟨n - 1, by omega⟩
    obtain ⟨hi, hd', hyl⟩ := dropC hd
    have hz := c.1.1
    have h30 := c.2.2.2.1
    obtain ⟨e1, e2, e3, e4, e5, e6, e7⟩ := c.2.2.2.2.2.2 x b hb
    rw [show 30 * 0 + x = x by omega] at e5
    have e7' := (e7 y i hi).1
    rw [show 600 * 0 + 20 * x + y = 20 * x + y by omega] at e7'
    simp only [List.length_cons] at hn
    unfold g_R_reach_52
    rw [gR_e (by omega) c.1.2.1 (r10 c.1).1, aI_e (by omega) (r10 c.1).2 (by omega) (by decide), e5, if_neg (nI_ge hyl (by omega)), gR_e (by omega) c.1.2.1 (r15 c.1).1, aZ_e (by omega) (r15 c.1).2 (show x < 30 by omega) (by decide)]
    by_cases h0 : xi M 283 x = 0
    · rw [if_pos h0]
      exact ⟨M, f, rfl, Upd.rf, h, GrR.rf, fun hf => ⟨hf, fun _ _ => rfl, fun hn => absurd h0 hn⟩, fun hf => Or.inl hf⟩
    · have hkx : Kept pr x := ((h x hxl).resolve_left h0).2
      rw [if_neg h0, gR_e (by omega) c.1.2.1 (r12 c.1).1, i20, aI_e (by omega) (r12 c.1).2 (by omega) (by decide), e7']
      have href : isRef i → ∃ N f', g_R_reach_102 r32 r40 (g_R_reach_52 r32 r40 n') 268 (bI f) (nI x) (nI y) i.1 M = r40 268 (bI f') (nI x + 1) N ∧ Upd 283 284 M N ∧ Kr N pr ∧ GrR M N pr ∧ (f' = false → f = false ∧ (∀ m, m < pr.2.length → xi N 283 m = xi M 283 m) ∧ (¬ xi N 283 x = 0 → ∀ i' ∈ i :: t, DnR N pr cl i')) ∧ (f' = true → f = true ∨ kR M pr < kR N pr) := by
        intro hr
        obtain ⟨K, f1, k1, k2, k3, k4, k5, k6, k7⟩ := s_R_reach_1 c hW h hkx hb hcl ed hdl hi (hC b hbm i (List.mem_of_getElem? hi)) hr r32 r40 (g_R_reach_52 r32 r40 n') f
        rw [k1, nI_1]
        obtain ⟨N, f', n1, n2, n3, n4, n5, n6⟩ := ih (y + 1) K f1 ((k2.wide (by omega) (by omega) : Upd 282 289 M K).ctq c) k3 (by omega) hd' n' (by omega)
        refine ⟨N, f', n1, k2.tr n2, n3, k4.tr n4, fun hf => ?_, fun hf => ?_⟩
        · obtain ⟨g1, g2, g3⟩ := n5 hf
          obtain ⟨g4, g5⟩ := k6 g1
          refine ⟨g4, fun m hm => (g2 m hm).trans (g5 m hm), fun hx i' hi' => ?_⟩
          rcases List.mem_cons.mp hi' with rfl | hi'
          · exact fun hr' k hk e => n4.1 k hk (k5 hr' k hk e)
          · exact g3 hx i' hi'
        · have := n4.2
          have := k4.2
          rcases n6 hf with e | e
          · rcases k7 e with e | e
            · exact Or.inl e
            · exact Or.inr (by omega)
          · exact Or.inr (by omega)
      by_cases r1 : i.1 = 1
      · rw [if_pos r1]; exact href (Or.inl r1)
      · rw [if_neg r1]
        by_cases r2 : i.1 = 2
        · rw [if_pos r2]; exact href (Or.inr (Or.inl r2))
        · rw [if_neg r2]
          by_cases r3 : i.1 = 3
          · rw [if_neg (fun h => h r3)]; exact href (Or.inr (Or.inr r3))
          · rw [if_pos r3, nI_1]
            obtain ⟨N, f', n1, n2, n3, n4, n5, n6⟩ := ih (y + 1) M f c h (by omega) hd' n' (by omega)
            refine ⟨N, f', n1, n2, n3, n4, fun hf => ?_, n6⟩
            obtain ⟨g1, g2, g3⟩ := n5 hf
            refine ⟨g1, g2, fun hx i' hi' => ?_⟩
            rcases List.mem_cons.mp hi' with rfl | hi'
            · intro hr
              rcases hr with e | e | e
              · exact absurd e r1
              · exact absurd e r2
              · exact absurd e r3
            · exact g3 hx i' hi'
def DnRM (N : XM) (pr : PR) (m : Nat) : Prop := ∀ b cl, pr.2[m]? = some b → lk pr.1 b.1 = some cl → ∀ i ∈ b.2.2.2.2, DnR N pr cl i
theorem s_R_pass (hW : WF pr) (hC : Clo pr) (r32 : Nat → Int32 → XM → XP) : ∀ (t : List MB) (x : Nat) (M : XM) (f : Bool), CtQ M pr → Kr M pr → x ≤ pr.2.length → pr.2.drop x = t → ∀ n, t.length < n →
    ∃ N f', g_R_reach_40 r32 n 268 (bI f) (nI x) M = r32 268 (bI f') N ∧ Upd 283 284 M N ∧ Kr N pr ∧ GrR M N pr ∧ (f' = false → f = false ∧ (∀ m, m < pr.2.length → xi N 283 m = xi M 283 m) ∧ ∀ m, x ≤ m → m < pr.2.length → ¬ xi N 283 m = 0 → DnRM N pr m) ∧ (f' = true → f = true ∨ kR M pr < kR N pr) := by
  intro t
  induction t with
  | nil =>
    intro x M f c h hx hd n hn
    obtain ⟨n', rfl⟩ : ∃ n', n = n' + 1 := ⟨n - 1, by omega⟩
    have hlen := dropN hd hx
    have hz := c.1.1
    have h30 := c.2.2.2.1
    unfold g_R_reach_40
    rw [gR_e (by omega) c.1.2.1 (r2 c.1).1, aI_0 (by omega) (r2 c.1).2 (by decide) (by decide), c.2.2.2.2.1, if_pos (nI_le (by omega) (by omega))]
    exact ⟨M, f, rfl, Upd.rf, h, GrR.rf, fun hf => ⟨hf, fun _ _ => rfl, fun m hm hm' => by omega⟩, fun hf => Or.inl hf⟩
  | cons b t ih =>
    intro x M f c h hx hd n hn
    obtain ⟨n', rfl⟩ : ∃ n', n = n' + 1 := ⟨n - 1, by omega⟩
    obtain ⟨hb, hd', hxl⟩ := dropC hd
    have hz := c.1.1
    have h30 := c.2.2.2.1
    obtain ⟨d, j, cl, d6, j20, ed, ej, hcl, hdl, hjl, hl20⟩ := okM.at c.2.sz (hW.2 b (List.mem_of_getElem? hb))
    have h20 := c.2.sz.2.2.2 b (List.mem_of_getElem? hb)
    simp only [List.length_cons] at hn
    unfold g_R_reach_40
    rw [gR_e (by omega) c.1.2.1 (r2 c.1).1, aI_0 (by omega) (r2 c.1).2 (by decide) (by decide), c.2.2.2.2.1, if_neg (nI_ge hxl (by omega))]
    obtain ⟨K, f1, k1, k2, k3, k4, k5, k6⟩ := s_R_reach_i hW hC hb hcl ed hdl r32 (g_R_reach_40 r32 n') b.2.2.2.2 0 M f c h (Nat.zero_le _) rfl FU (show _ < 5000 by omega)
    rw [show (0 : Int32) = nI 0 from rfl, k1, nI_1]
    obtain ⟨N, f', n1, n2, n3, n4, n5, n6⟩ := ih (x + 1) K f1 ((k2.wide (by omega) (by omega) : Upd 282 289 M K).ctq c) k3 (by omega) hd' n' (by omega)
    refine ⟨N, f', n1, k2.tr n2, n3, k4.tr n4, fun hf => ?_, fun hf => ?_⟩
    · obtain ⟨g1, g2, g3⟩ := n5 hf
      obtain ⟨g4, g5, g6⟩ := k5 g1
      refine ⟨g4, fun m hm => (g2 m hm).trans (g5 m hm), fun m hxm hm hn => ?_⟩
      by_cases e : m = x
      · subst e
        intro b' cl' hb' hcl' i hi hr k hk ek
        rw [hb] at hb'; cases hb'
        rw [hcl] at hcl'; cases hcl'
        exact n4.1 k hk (g6 (by rw [← g2 m hm]; exact hn) i hi hr k hk ek)
      · exact g3 m (by omega) hm hn
    · have := n4.2
      have := k4.2
      rcases n6 hf with e | e
      · rcases k6 e with e | e
        · exact Or.inl e
        · exact Or.inr (by omega)
      · exact Or.inr (by omega)
theorem s_R_more (hW : WF pr) (hC : Clo pr) : ∀ (r : Nat) (M : XM), pr.2.length ≤ kR M pr + r → CtQ M pr → Kr M pr → ∀ n, r + 1 < n →
    ∃ N, g_R_reach_32 n 268 1 M = rV N ∧ Upd 283 284 M N ∧ Kr N pr ∧ GrR M N pr ∧ ∀ m, m < pr.2.length → ¬ xi N 283 m = 0 → DnRM N pr m := by
  intro r
  induction r with
  | zero =>
    intro M hr c h n hn
    obtain ⟨n', rfl⟩ : ∃ n', n = n' + 1 + 1 := ⟨n - 2, by omega⟩
    have h30 := c.2.2.2.1
    unfold g_R_reach_32
    rw [if_neg (by decide)]
    obtain ⟨N, f', n1, n2, n3, n4, n5, n6⟩ := s_R_pass hW hC (g_R_reach_32 (n' + 1)) pr.2 0 M false c h (Nat.zero_le _) rfl FU (show _ < 5000 by omega)
    cases f' with
    | true =>
      have hle : kR N pr ≤ pr.2.length := rk_le _ _
      rcases n6 rfl with e | e
      · cases e
      · omega
    | false =>
      obtain ⟨g1, g2, g3⟩ := n5 rfl
      rw [show (0 : Int32) = nI 0 from rfl, show g_R_reach_40 (g_R_reach_32 (n' + 1)) FU 268 (nI 0) (nI 0) M = g_R_reach_32 (n' + 1) 268 (bI false) N from n1]
      unfold g_R_reach_32
      rw [if_pos (show bI false = 0 from rfl)]
      exact ⟨N, rfl, n2, n3, n4, fun m hm hn => g3 m (Nat.zero_le _) hm hn⟩
  | succ r ih =>
    intro M hr c h n hn
    obtain ⟨n', rfl⟩ : ∃ n', n = n' + 1 + 1 := ⟨n - 2, by omega⟩
    have h30 := c.2.2.2.1
    unfold g_R_reach_32
    rw [if_neg (by decide)]
    obtain ⟨N, f', n1, n2, n3, n4, n5, n6⟩ := s_R_pass hW hC (g_R_reach_32 (n' + 1)) pr.2 0 M false c h (Nat.zero_le _) rfl FU (show _ < 5000 by omega)
    rw [show (0 : Int32) = nI 0 from rfl, show g_R_reach_40 (g_R_reach_32 (n' + 1)) FU 268 (nI 0) (nI 0) M = g_R_reach_32 (n' + 1) 268 (bI f') N from n1]
    cases f' with
    | true =>
      rcases n6 rfl with e | e
      · cases e
      · obtain ⟨K, k1, k2, k3, k4, k5⟩ := ih N (by omega) ((n2.wide (by omega) (by omega) : Upd 282 289 M N).ctq c) n3 (n' + 1) (by omega)
        exact ⟨K, k1, n2.tr k2, k3, n4.tr k4, k5⟩
    | false =>
      obtain ⟨g1, g2, g3⟩ := n5 rfl
      unfold g_R_reach_32
      rw [if_pos (show bI false = 0 from rfl)]
      exact ⟨N, rfl, n2, n3, n4, fun m hm hn => g3 m (Nat.zero_le _) hm hn⟩
def KrD (M : XM) (pr : PR) : Prop := ∀ m, m < pr.2.length → xi M 283 m = bI (kM pr m)
theorem s_R_reach (hW : WF pr) (hC : Clo pr) : ∀ (t : List MB) (x : Nat) (M : XM), CtQ M pr → (∀ m b, m < x → pr.2[m]? = some b → xi M 283 m = b.2.2.2.1) → x ≤ pr.2.length → pr.2.drop x = t → ∀ n, t.length < n →
    ∃ N, g_R_reach_2 n 268 (nI x) M = rV N ∧ Upd 283 284 M N ∧ KrD N pr := by
  intro t
  induction t with
  | nil =>
    intro x M c h hx hd n hn
    obtain ⟨n', rfl⟩ : ∃ n', n = n' + 1 := ⟨n - 1, by omega⟩
    have hlen := dropN hd hx
    have hz := c.1.1
    have h30 := c.2.2.2.1
    have hK : Kr M pr := by
      intro m hm
      have hb := List.getElem?_eq_getElem hm
      rw [h m _ (by omega) hb]
      rcases (hW.2 _ (List.mem_of_getElem? hb)).2.2.1 with e | e
      · exact Or.inl e
      · exact Or.inr ⟨e, Kept.entr ⟨_, hb, by rw [e]; decide⟩⟩
    unfold g_R_reach_2
    rw [gR_e (by omega) c.1.2.1 (r2 c.1).1, aI_0 (by omega) (r2 c.1).2 (by decide) (by decide), c.2.2.2.2.1, if_pos (nI_le (by omega) (by omega))]
    obtain ⟨N, n1, n2, n3, n4, n5⟩ := s_R_more hW hC pr.2.length M (by omega) c hK FU (show _ < 5000 by omega)
    refine ⟨N, n1, n2, fun m hm => ?_⟩
    have hKe : ∀ k, Kept pr k → ¬ xi N 283 k = 0 := by
      intro k hk
      refine (hk (fun k => k < pr.2.length ∧ ¬ xi N 283 k = 0) (fun k hk => ⟨(Kept.entr hk).lt, ?_⟩) fun a k ⟨h1, h2⟩ h3 => ⟨h3.1, ?_⟩).2
      · have hkl := (Kept.entr hk).lt
        obtain ⟨b, hb, h0⟩ := hk
        exact n4.1 k hkl (by rw [h k b (by omega) hb]; exact h0)
      · obtain ⟨hk, b, cl, i, hb, hcl, hi, hr, e⟩ := h3
        exact n5 a h1 h2 b cl hb hcl i hi hr k hk e
    rcases n3 m hm with e | ⟨e, hk⟩
    · rw [e, bf_t kM_t fun hk => hKe m hk e]; rfl
    · rw [e, kM_t.mpr hk]; rfl
  | cons b t ih =>
    intro x M c h hx hd n hn
    obtain ⟨n', rfl⟩ : ∃ n', n = n' + 1 := ⟨n - 1, by omega⟩
    obtain ⟨hb, hd', hxl⟩ := dropC hd
    have hz := c.1.1
    have h30 := c.2.2.2.1
    obtain ⟨e1, e2, e3, e4, e5, e6, e7⟩ := c.2.2.2.2.2.2 x b hb
    rw [show 30 * 0 + x = x by omega] at e4
    simp only [List.length_cons] at hn
    unfold g_R_reach_2
    rw [gR_e (by omega) c.1.2.1 (r2 c.1).1, aI_0 (by omega) (r2 c.1).2 (by decide) (by decide), c.2.2.2.2.1, if_neg (nI_ge hxl (by omega)), gR_e (by omega) c.1.2.1 (r15 c.1).1, gR_e (by omega) c.1.2.1 (r11 c.1).1, aZ_e (by omega) (r11 c.1).2 (by omega) (by decide), e4, sZ_e (by omega) (r15 c.1).2 (show x < 30 by omega) (by decide) (hW.2 b (List.mem_of_getElem? hb)).2.2.1, nI_1]
    have hU : Upd 283 284 M (xpi M 283 x b.2.2.2.1) := Upd.rf.pi (by omega) (by omega)
    obtain ⟨N, n1, n2, n3⟩ := ih (x + 1) (xpi M 283 x b.2.2.2.1) ((hU.wide (by omega) (by omega) : Upd 282 289 M _).ctq c) (fun m b' hm hb' => by
      by_cases e : m = x
      · subst e
        rw [hb] at hb'; cases hb'
        exact xi_eq _ _ _ _
      · rw [xi_no (by omega)]; exact h m b' (by omega) hb') (by omega) hd' n' (by omega)
    exact ⟨N, n1, hU.tr n2, n3⟩
end PRE
