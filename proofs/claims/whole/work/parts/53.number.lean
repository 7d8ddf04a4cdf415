/-! the reference numbers -/
theorem rk_s (P : Nat → Bool) (n : Nat) : rk P (n + 1) = rk P n + (if P n = true then 1 else 0) := rfl
section PNU
variable {M : XM} {pr : PR}
theorem MrD.up {N : XM} (h : xi N 285 = xi M 285) (hK : MrD M pr) : MrD N pr := fun c j hc hj => by rw [h]; exact hK c j hc hj
theorem s_R_num_m : ∀ (r x : Nat) (M : XM), x + r = 30 → CtQ M pr → KrD M pr → (∀ m, m < x → xi M 282 m = num (kM pr) m) → ∀ n, r < n →
    ∃ N, g_R_numberAll_4 n 268 (nI (rk (kM pr) x)) (nI x) M = g_R_numberAll_67 FU 268 0 0 N ∧ Upd 282 283 M N ∧ ∀ m, m < 30 → xi N 282 m = num (kM pr) m := by
  intro r
  induction r with
  | zero =>
    intro x M hx c hK h n hn
    obtain ⟨n', rfl⟩ : ∃ n', n = n' + 1 := ⟨n - 1, by omega⟩
    unfold g_R_numberAll_4
    rw [if_pos (show (30 : Int32) ≤ nI x from nI_le (a := 30) (by omega) (by omega))]
    exact ⟨M, rfl, Upd.rf, fun m hm => h m (by omega)⟩
  | succ r ih =>
    intro x M hx c hK h n hn
    obtain ⟨n', rfl⟩ : ∃ n', n = n' + 1 := ⟨n - 1, by omega⟩
    have hz := c.1.1
    have h30 := c.2.2.2.1
    have hrk := rk_le (kM pr) x
    have h39 : ∀ v : Int32, v = num (kM pr) x → ∃ N, g_R_numberAll_39 (g_R_numberAll_4 n') 268 (nI (rk (kM pr) x)) (nI x) 282 (nI x) v M = g_R_numberAll_67 FU 268 0 0 N ∧ Upd 282 283 M N ∧ ∀ m, m < 30 → xi N 282 m = num (kM pr) m := by
      intro v hv
      have hU : Upd 282 283 M (xpi M 282 x v) := Upd.rf.pi (by omega) (by omega)
      have c1 := (hU.wide (by omega) (by omega) : Upd 282 289 M _).ctq c
      have hz1 := c1.1.1
      obtain ⟨N, n1, n2, n3⟩ := ih (x + 1) (xpi M 282 x v) (by omega) c1 (hK.up (xi_row (by omega))) (fun m hm => by
        by_cases e : m = x
        · subst e; rw [xi_eq]; exact hv
        · rw [xi_no (by omega)]; exact h m (by omega)) n' (by omega)
      unfold g_R_numberAll_39
      rw [sI_e (by omega) (r14 c.1).2 (show x < 30 by omega) (by decide), gR_e (by omega) c1.1.2.1 (r14 c1.1).1, aI_e (by omega) (r14 c1.1).2 (show x < 30 by omega) (by decide), xi_eq, hv, nI_1]
      refine ⟨N, ?_, hU.tr n2, n3⟩
      rw [← n1, rk_s]
      unfold num
      by_cases hk : kM pr x = true
      · rw [if_pos hk, if_neg (nI_pos (by omega)), nI_1, if_pos hk]; rw [hv]; unfold num; rw [if_pos hk]
      · rw [if_neg hk, if_pos (by decide), if_neg hk]; rw [hv]; unfold num; rw [if_neg hk]; rfl
    unfold g_R_numberAll_4
    rw [if_neg (show ¬ (30 : Int32) ≤ nI x from nI_ge (b := 30) (by omega) (by omega)), gR_e (by omega) c.1.2.1 (r14 c.1).1, gR_e (by omega) c.1.2.1 (r2 c.1).1, aI_0 (by omega) (r2 c.1).2 (by decide) (by decide), c.2.2.2.2.1]
    by_cases hxl : x < pr.2.length
    · rw [if_neg (nI_ge hxl (by omega)), gR_e (by omega) c.1.2.1 (r15 c.1).1, aZ_e (by omega) (r15 c.1).2 (show x < 30 by omega) (by decide), hK x hxl]
      by_cases hk : kM pr x = true
      · rw [hk, if_neg (by decide)]
        exact h39 _ (by unfold num; rw [if_pos hk])
      · rw [show kM pr x = false by simpa using hk, if_pos (show bI false = 0 from rfl)]
        unfold g_R_numberAll_38
        exact h39 _ (num_no hk).symm
    · rw [if_pos (nI_le (by omega) (by omega))]
      unfold g_R_numberAll_38
      exact h39 _ (num_no fun hk => hxl (kM_t.mp hk).lt).symm
theorem s_R_num_j {x : Nat} {cl : List CT} (hcl : pr.1[x]? = some cl) (r67 : Nat → Int32 → Int32 → XM → XP) (v1 : Int32) : ∀ (t : List CT) (y : Nat) (M : XM), CtQ M pr → MrD M pr → (∀ j, j < y → xi M 286 (20 * x + j) = nI (rk (kQ pr x) j)) → y ≤ cl.length → cl.drop y = t → ∀ n, t.length < n →
    ∃ N, g_R_numberAll_167 r67 n 268 v1 (nI x) (nI (rk (kQ pr x) y)) (nI (20 * x + y)) M = r67 268 v1 (nI x + 1) N ∧ Upd 286 287 M N ∧ (∀ k, (k < 20 * x ∨ 20 * x + 20 ≤ k) → xi N 286 k = xi M 286 k) ∧ ∀ j, j < cl.length → xi N 286 (20 * x + j) = nI (rk (kQ pr x) j) := by
  intro t
  induction t with
  | nil =>
    intro y M c hQ h hy hd n hn
    obtain ⟨n', rfl⟩ : ∃ n', n = n' + 1 := ⟨n - 1, by omega⟩
    have hlen := dropN hd hy
    have hz := c.1.1
    have h6 := c.2.1
    have hx : x < pr.1.length := (List.getElem?_eq_some_iff.mp hcl).1
    obtain ⟨hl, g2, -⟩ := c.2.2.2.2.2.1 x cl hcl
    rw [show 6 * 0 + x = x by omega] at g2
    unfold g_R_numberAll_167
    rw [base0, cI_e, gR_e (by omega) c.1.2.1 (r3 c.1).1, aI_e (by omega) (r3 c.1).2 (by omega) (by decide), g2, nI_add, if_pos (nI_le (by omega) (by omega))]
    exact ⟨M, rfl, Upd.rf, fun _ _ => rfl, fun j hj => h j (by omega)⟩
  | cons q t ih =>
    intro y M c hQ h hy hd n hn
    obtain ⟨n', rfl⟩ : ∃ n', n = n' + 1 := ⟨n - 1, by omega⟩
    obtain ⟨hq, hd', hyl⟩ := dropC hd
    have hz := c.1.1
    have h6 := c.2.1
    have hx : x < pr.1.length := (List.getElem?_eq_some_iff.mp hcl).1
    obtain ⟨hl, g2, -⟩ := c.2.2.2.2.2.1 x cl hcl
    rw [show 6 * 0 + x = x by omega] at g2
    simp only [List.length_cons] at hn
    have hU : Upd 286 287 M (xpi M 286 (20 * x + y) (nI (rk (kQ pr x) y))) := Upd.rf.pi (by omega) (by omega)
    have c1 := (hU.wide (by omega) (by omega) : Upd 282 289 M _).ctq c
    have hz1 := c1.1.1
    have hQ1 : MrD (xpi M 286 (20 * x + y) (nI (rk (kQ pr x) y))) pr := hQ.up (xi_row (by omega))
    unfold g_R_numberAll_167
    rw [base0, cI_e, gR_e (by omega) c.1.2.1 (r3 c.1).1, aI_e (by omega) (r3 c.1).2 (by omega) (by decide), g2, nI_add, if_neg (nI_ge (by omega) (by omega)), gR_e (by omega) c.1.2.1 (r18 c.1).1, sI_e (by omega) (r18 c.1).2 (show 20 * x + y < 120 by omega) (by decide), gR_e (by omega) c1.1.2.1 (r17 c1.1).1, aZ_e (by omega) (r17 c1.1).2 (show 20 * x + y < 120 by omega) (by decide), hQ1 x y (by omega) (by omega), nI_1, nI_1]
    obtain ⟨N, n1, n2, n3, n4⟩ := ih (y + 1) _ c1 hQ1 (fun j hj => by
      by_cases e : j = y
      · subst e; exact xi_eq _ _ _ _
      · rw [xi_no (by omega)]; exact h j (by omega)) (by omega) hd' n' (by omega)
    refine ⟨N, ?_, hU.tr n2, fun k hk => by rw [n3 k hk, xi_no (by omega)], n4⟩
    rw [← n1, rk_s]
    by_cases hk : kQ pr x y = true
    · rw [hk, if_neg (by decide), if_pos rfl]; rfl
    · rw [show kQ pr x y = false by simpa using hk, if_pos (show bI false = 0 from rfl), if_neg (by decide)]; rfl
theorem s_R_num_o (hz' : Sz pr) (hW : WF pr) {x : Nat} (hx6 : x < 6) (c : CtQ M pr) (hK : KrD M pr) (r67 : Nat → Int32 → Int32 → XM → XP) (v1 : Int32) : ∀ (t : List MB) (y : Nat) (f : Bool), (f = true → kC pr x = true) → (f = false → ∀ m b, m < y → pr.2[m]? = some b → Kept pr m → ¬ b.1 = nI x) → y ≤ pr.2.length → pr.2.drop y = t → ∀ n, t.length < n →
    g_R_numberAll_82 r67 n 268 v1 (nI x) (bI f) (nI y) M = g_R_numberAll_144 r67 268 v1 (nI x) (bI (kC pr x)) 284 (nI x) (if kC pr x = true then v1 else -1) M := by
  have hz := c.1.1
  have h30 := c.2.2.2.1
  intro t
  induction t with
  | nil =>
    intro y f h1 h2 hy hd n hn
    obtain ⟨n', rfl⟩ : ∃ n', n = n' + 1 := ⟨n - 1, by omega⟩
    have hlen := dropN hd hy
    unfold g_R_numberAll_82
    rw [gR_e (by omega) c.1.2.1 (r2 c.1).1, aI_0 (by omega) (r2 c.1).2 (by decide) (by decide), c.2.2.2.2.1, if_pos (nI_le (by omega) (by omega)), gR_e (by omega) c.1.2.1 (r16 c.1).1]
    cases f with
    | true =>
      rw [h1 rfl, if_neg (by decide), if_pos rfl]
    | false =>
      have hf : kC pr x = false := bf_t kC_t fun ⟨m, b, hk, hb, e⟩ => h2 rfl m b (by have := hk.lt; omega) hb hk e
      rw [hf, if_pos (show bI false = 0 from rfl), if_neg (by decide)]
  | cons b t ih =>
    intro y f h1 h2 hy hd n hn
    obtain ⟨n', rfl⟩ : ∃ n', n = n' + 1 := ⟨n - 1, by omega⟩
    obtain ⟨hb, hd', hyl⟩ := dropC hd
    obtain ⟨e1, -⟩ := c.2.2.2.2.2.2 y b hb
    rw [show 30 * 0 + y = y by omega] at e1
    simp only [List.length_cons] at hn
    unfold g_R_numberAll_82
    rw [gR_e (by omega) c.1.2.1 (r2 c.1).1, aI_0 (by omega) (r2 c.1).2 (by decide) (by decide), c.2.2.2.2.1, if_neg (nI_ge hyl (by omega)), nI_1]
    cases f with
    | true =>
      rw [if_pos (by decide)]
      exact ih (y + 1) true h1 (fun h => by cases h) (by omega) hd' n' (by omega)
    | false =>
      have hno : ¬ (Kept pr y ∧ b.1 = nI x) → g_R_numberAll_82 r67 n' 268 v1 (nI x) 0 (nI (y + 1)) M = g_R_numberAll_144 r67 268 v1 (nI x) (bI (kC pr x)) 284 (nI x) (if kC pr x = true then v1 else -1) M := by
        intro hne
        refine ih (y + 1) false (fun h => by cases h) (fun _ m b' hm hb' hk e => ?_) (by omega) hd' n' (by omega)
        by_cases em : m = y
        · subst em
          rw [hb] at hb'; cases hb'
          exact hne ⟨hk, e⟩
        · exact h2 rfl m b' (by omega) hb' hk e
      rw [if_neg (fun h => h rfl), gR_e (by omega) c.1.2.1 (r15 c.1).1, aZ_e (by omega) (r15 c.1).2 (show y < 30 by omega) (by decide), hK y hyl]
      by_cases hk : kM pr y = true
      · rw [hk, if_neg (by decide), gR_e (by omega) c.1.2.1 (r7 c.1).1, aI_e (by omega) (r7 c.1).2 (by omega) (by decide), e1]
        by_cases e : b.1 = nI x
        · rw [if_neg (fun h => h e)]
          exact ih (y + 1) true (fun _ => kC_t.mpr ⟨y, b, kM_t.mp hk, hb, e⟩) (fun h => by cases h) (by omega) hd' n' (by omega)
        · rw [if_pos e]
          exact hno fun h => e h.2
      · rw [show kM pr y = false by simpa using hk, if_pos (show bI false = 0 from rfl)]
        exact hno fun h => hk (kM_t.mpr h.1)
theorem s_R_num_c (hW : WF pr) : ∀ (t : List (List CT)) (x : Nat) (M : XM), CtQ M pr → KrD M pr → MrD M pr → (∀ d, d < x → xi M 284 d = num (kC pr) d) → (∀ d cl j, d < x → pr.1[d]? = some cl → j < cl.length → xi M 286 (20 * d + j) = nI (rk (kQ pr d) j)) → x ≤ pr.1.length → pr.1.drop x = t → ∀ n, t.length < n →
    ∃ N, g_R_numberAll_67 n 268 (nI (rk (kC pr) x)) (nI x) M = rV N ∧ Upd 284 287 M N ∧ xi N 285 = xi M 285 ∧ (∀ d, d < pr.1.length → xi N 284 d = num (kC pr) d) ∧ ∀ d cl j, pr.1[d]? = some cl → j < cl.length → xi N 286 (20 * d + j) = nI (rk (kQ pr d) j) := by
  intro t
  induction t with
  | nil =>
    intro x M c hK hQ h h2 hx hd n hn
    obtain ⟨n', rfl⟩ : ∃ n', n = n' + 1 := ⟨n - 1, by omega⟩
    have hlen := dropN hd hx
    have hz := c.1.1
    have h6 := c.2.1
    unfold g_R_numberAll_67
    rw [gR_e (by omega) c.1.2.1 (r1 c.1).1, aI_0 (by omega) (r1 c.1).2 (by decide) (by decide), c.2.2.1, if_pos (nI_le (by omega) (by omega))]
    exact ⟨M, rfl, Upd.rf, rfl, fun d hd => h d (by omega), fun d cl j hcl hj => h2 d cl j (by have hdl : d < pr.1.length := (List.getElem?_eq_some_iff.mp hcl).1; omega) hcl hj⟩
  | cons cl t ih =>
    intro x M c hK hQ h h2 hx hd n hn
    obtain ⟨n', rfl⟩ : ∃ n', n = n' + 1 := ⟨n - 1, by omega⟩
    obtain ⟨hcl, hd', hxl⟩ := dropC hd
    have hz := c.1.1
    have h6 := c.2.1
    have h30 := c.2.2.2.1
    have hl := (c.2.2.2.2.2.1 x cl hcl).1
    simp only [List.length_cons] at hn
    unfold g_R_numberAll_67
    rw [gR_e (by omega) c.1.2.1 (r1 c.1).1, aI_0 (by omega) (r1 c.1).2 (by decide) (by decide), c.2.2.1, if_neg (nI_ge hxl (by omega))]
    rw [show g_R_numberAll_82 (g_R_numberAll_67 n') FU 268 (nI (rk (kC pr) x)) (nI x) 0 0 M = _ from s_R_num_o c.2.sz hW (show x < 6 by omega) c hK (g_R_numberAll_67 n') (nI (rk (kC pr) x)) pr.2 0 false (fun h => by cases h) (fun _ m b hm => by omega) (Nat.zero_le _) rfl FU (show _ < 5000 by omega)]
    have hU : Upd 284 287 M (xpi M 284 x (num (kC pr) x)) := Upd.rf.pi (by omega) (by omega)
    have c1 := (hU.wide (by omega) (by omega) : Upd 282 289 M _).ctq c
    have hQ1 : MrD (xpi M 284 x (num (kC pr) x)) pr := hQ.up (xi_row (by omega))
    have hK1 : KrD (xpi M 284 x (num (kC pr) x)) pr := hK.up (xi_row (by omega))
    obtain ⟨K, k1, k2, k3, k4⟩ := s_R_num_j hcl (g_R_numberAll_67 n') (nI (rk (kC pr) (x + 1))) cl 0 _ c1 hQ1 (fun j hj => by omega) (Nat.zero_le _) rfl FU (show _ < 5000 by omega)
    have hUK : Upd 284 287 M K := hU.tr (k2.wide (by omega) (by omega))
    obtain ⟨N, n1, n2, n3, n4, n5⟩ := ih (x + 1) K ((hUK.wide (by omega) (by omega) : Upd 282 289 M _).ctq c) (hK1.up (k2.2.2.2.2.2 283 (by omega))) (hQ1.up (k2.2.2.2.2.2 285 (by omega))) (fun d hd => by
      rw [k2.2.2.2.2.2 284 (by omega)]
      by_cases e : d = x
      · subst e; exact xi_eq _ _ _ _
      · rw [xi_no (by omega)]; exact h d (by omega)) (fun d dl j hd hdl hj => by
      by_cases e : d = x
      · subst e
        rw [hcl] at hdl; cases hdl
        exact k4 j hj
      · have hdl' := c.2.sz.2.2.1 dl (List.mem_of_getElem? hdl)
        rw [k3 _ (by omega), xi_ne1 (by omega)]; exact h2 d dl j (by omega) hdl hj) (by omega) hd' n' (by omega)
    refine ⟨N, ?_, hUK.tr n2, by rw [n3, k2.2.2.2.2.2 285 (by omega), xi_row (by omega)], n4, n5⟩
    unfold g_R_numberAll_144
    have hv : (if kC pr x = true then nI (rk (kC pr) x) else -1) = num (kC pr) x := rfl
    rw [hv, sI_e (by omega) (r16 c.1).2 (show x < 6 by omega) (by decide)]
    have h156 : g_R_numberAll_156 (g_R_numberAll_67 n') 268 (nI x) (nI (rk (kC pr) (x + 1))) (xpi M 284 x (num (kC pr) x)) = rV N := by
      unfold g_R_numberAll_156
      rw [base0, cI_e]
      rw [show rk (kQ pr x) 0 = 0 from rfl, show 20 * x + 0 = 20 * x by omega] at k1
      rw [show (0 : Int32) = nI 0 from rfl, k1, nI_1]
      exact n1
    rw [rk_s] at h156
    by_cases hk : kC pr x = true
    · rw [if_pos hk] at h156
      rw [hk, if_neg (by decide), nI_1]
      exact h156
    · rw [if_neg hk] at h156
      rw [show kC pr x = false by simpa using hk, if_pos (show bI false = 0 from rfl)]
      exact h156
def NumR (M : XM) (pr : PR) : Prop := (∀ m, m < 30 → xi M 282 m = num (kM pr) m) ∧ (∀ d, d < pr.1.length → xi M 284 d = num (kC pr) d) ∧ ∀ d cl j, pr.1[d]? = some cl → j < cl.length → xi M 286 (20 * d + j) = nI (rk (kQ pr d) j)
theorem s_R_numberAll (c : CtQ M pr) (hW : WF pr) (hK : KrD M pr) (hQ : MrD M pr) : ∃ N, g_R_numberAll 268 M = rV N ∧ Upd 282 287 M N ∧ KrD N pr ∧ MrD N pr ∧ NumR N pr := by
  have h6 := c.2.1
  obtain ⟨K, k1, k2, k3⟩ := s_R_num_m (pr := pr) 30 0 M (by omega) c hK (fun m hm => by omega) FU (show 30 < 5000 by decide)
  have c1 := (k2.wide (by omega) (by omega) : Upd 282 289 M _).ctq c
  obtain ⟨N, n1, n2, n3, n4, n5⟩ := s_R_num_c hW pr.1 0 K c1 (hK.up (k2.2.2.2.2.2 283 (by omega))) (hQ.up (k2.2.2.2.2.2 285 (by omega))) (fun d hd => by omega) (fun d cl j hd => by omega) (Nat.zero_le _) rfl FU (show _ < 5000 by omega)
  refine ⟨N, ?_, (k2.wide (by omega) (by omega)).tr (n2.wide (by omega) (by omega)), hK.up (by rw [n2.2.2.2.2.2 283 (by omega), k2.2.2.2.2.2 283 (by omega)]), hQ.up (by rw [n3, k2.2.2.2.2.2 285 (by omega)]), fun m hm => by rw [n2.2.2.2.2.2 282 (by omega)]; exact k3 m hm, n4, n5⟩
  unfold g_R_numberAll
  rw [show g_R_numberAll_4 FU 268 0 0 M = g_R_numberAll_67 FU 268 0 0 K from k1]
  exact n1
end PNU
