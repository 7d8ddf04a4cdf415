/-! the reference gives names -/
section PGN
variable {M : XM} {pr : PR}
/-- the state: next, the names given, the new names -/
def GnS (M : XM) (pr : PR) (b n : Nat) : Prop := b ≤ nx (eB pr) (uB pr) n ∧ (∀ k, k < 100 → nx (eB pr) (uB pr) n ≤ k → xi M 288 k = bI (eB pr k)) ∧ (∀ k, b ≤ k → k < nx (eB pr) (uB pr) n → ¬ xi M 288 k = 0) ∧ ∀ k, k < 100 → xi M 287 k = if k < n ∧ eB pr k = false ∧ uB pr k = true then nmV pr k else nI k
theorem s_R_least {E : Nat → Bool} (c : CtQ M pr) (r71 : Nat → Int32 → Int32 → XM → XP) {k n : Nat} (hk : k < 100) (hn : n < 100) (h0 : xi M 288 k = 0) : ∀ (r b : Nat), b + r = k → (∀ j, b ≤ j → j < k → ¬ xi M 288 j = 0) → ∀ f, r < f →
    g_R_giveNames_239 r71 f 268 (nI b) (nI n) M = r71 268 (nI k) (nI (n + 1)) (xpi (xpi M 288 k 1) 287 n (nI k)) := by
  have hz := c.1.1
  intro r
  induction r with
  | zero =>
    intro b hb h f hf
    obtain ⟨f', rfl⟩ : ∃ f', f = f' + 1 := ⟨f - 1, by omega⟩
    have e : b = k := by omega
    subst e
    have hA1 : RefAt (xpi M 288 b 1) := c.1
    have hz1 := hA1.1
    unfold g_R_giveNames_239
    rw [gR_e (by omega) c.1.2.1 (r20 c.1).1, aZ_e (by omega) (r20 c.1).2 hk (by decide), if_pos h0, gR_e (by omega) c.1.2.1 (r20 c.1).1, sZ_e (by omega) (r20 c.1).2 hk (by decide) (Or.inr rfl), gR_e (by omega) hA1.2.1 (r19 hA1).1, sI_e (by omega) (r19 hA1).2 hn (by decide), nI_1]
  | succ r ih =>
    intro b hb h f hf
    obtain ⟨f', rfl⟩ : ∃ f', f = f' + 1 := ⟨f - 1, by omega⟩
    unfold g_R_giveNames_239
    rw [gR_e (by omega) c.1.2.1 (r20 c.1).1, aZ_e (by omega) (r20 c.1).2 (show b < 100 by omega) (by decide), if_neg (h b (Nat.le_refl _) (by omega)), nI_1]
    exact ih (b + 1) (by omega) (fun j h1 h2 => h j (by omega) h2) f' (by omega)
theorem s_R_stays (hW : WF pr) (c : CtQ M pr) (r71 : Nat → Int32 → Int32 → XM → XP) (v1 : Int32) {k : Nat} (hk : k < 100) : ∀ (t : List MB) (y : Nat) (f : Bool), (f = true → eB pr k = true) → (f = false → ∀ m b, m < y → pr.2[m]? = some b → ¬ b.2.2.2.1 = 0 → ¬ nameV pr b = nI k) → y ≤ pr.2.length → pr.2.drop y = t → ∀ n, t.length < n →
    g_R_giveNames_82 r71 n 268 v1 (nI k) (bI f) (nI y) M = g_R_giveNames_136 r71 FU 268 v1 (nI k) (bI (eB pr k)) 0 0 M := by
  have hz := c.1.1
  have h30 := c.2.2.2.1
  intro t
  induction t with
  | nil =>
    intro y f h1 h2 hy hd n hn
    obtain ⟨n', rfl⟩ : ∃ n', n = n' + 1 := ⟨n - 1, by omega⟩
    have hlen := dropN hd hy
    unfold g_R_giveNames_82
    rw [gR_e (by omega) c.1.2.1 (r2 c.1).1, aI_0 (by omega) (r2 c.1).2 (by decide) (by decide), c.2.2.2.2.1, if_pos (nI_le (by omega) (by omega))]
    cases f with
    | true => rw [h1 rfl]
    | false =>
      rw [bf_t eB_t fun ⟨m, b, hb, h0, e⟩ => h2 rfl m b (by have hml : m < pr.2.length := (List.getElem?_eq_some_iff.mp hb).1; omega) hb h0 e]
  | cons b t ih =>
    intro y f h1 h2 hy hd n hn
    obtain ⟨n', rfl⟩ : ∃ n', n = n' + 1 := ⟨n - 1, by omega⟩
    obtain ⟨hb, hd', hyl⟩ := dropC hd
    obtain ⟨e1, e2, e3, e4, -⟩ := c.2.2.2.2.2.2 y b hb
    rw [show 30 * 0 + y = y by omega] at e4
    simp only [List.length_cons] at hn
    unfold g_R_giveNames_82
    rw [gR_e (by omega) c.1.2.1 (r2 c.1).1, aI_0 (by omega) (r2 c.1).2 (by decide) (by decide), c.2.2.2.2.1, if_neg (nI_ge hyl (by omega)), nI_1]
    cases f with
    | true =>
      rw [if_pos (by decide)]
      exact ih (y + 1) true h1 (fun h => by cases h) (by omega) hd' n' (by omega)
    | false =>
      have hno : ¬ (¬ b.2.2.2.1 = 0 ∧ nameV pr b = nI k) → g_R_giveNames_82 r71 n' 268 v1 (nI k) 0 (nI (y + 1)) M = g_R_giveNames_136 r71 FU 268 v1 (nI k) (bI (eB pr k)) 0 0 M := by
        intro hne
        refine ih (y + 1) false (fun h => by cases h) (fun _ m b' hm hb' h0 e => ?_) (by omega) hd' n' (by omega)
        by_cases em : m = y
        · subst em
          rw [hb] at hb'; cases hb'
          exact hne ⟨h0, e⟩
        · exact h2 rfl m b' (by omega) hb' h0 e
      rw [if_neg (fun h => h rfl), gR_e (by omega) c.1.2.1 (r11 c.1).1, aZ_e (by omega) (r11 c.1).2 (by omega) (by decide), e4]
      by_cases h0 : b.2.2.2.1 = 0
      · rw [if_pos h0]; exact hno fun h => h.1 h0
      · rw [if_neg h0, rv27 c.1, show g_R_nameOf 268 0 (nI y) M = rI (nameV pr b) M from s_R_nameOf (p := 0) c.1 (by decide) c.2 hW hb, cI_e]
        by_cases e : nameV pr b = nI k
        · rw [if_neg (fun h => h e)]
          exact ih (y + 1) true (fun _ => eB_t.mpr ⟨y, b, hb, h0, e⟩) (fun h => by cases h) (by omega) hd' n' (by omega)
        · rw [if_pos e]; exact hno fun h => e h.2
theorem s_R_used_j (hW : WF pr) (c : CtQ M pr) (hQ : MrD M pr) (r71 : Nat → Int32 → Int32 → XM → XP) (r136 : Nat → Int32 → Int32 → Int32 → Int32 → Int32 → XM → XP) (v1 v3 : Int32) {k x : Nat} {cl : List CT} (hcl : pr.1[x]? = some cl) : ∀ (t : List CT) (y : Nat) (f : Bool), (f = true → uB pr k = true) → y ≤ cl.length → cl.drop y = t → ∀ n, t.length < n →
    ∃ f', g_R_giveNames_155 r71 r136 n 268 v1 (nI k) v3 (bI f) (nI x) (nI (20 * x + y)) M = r136 268 v1 (nI k) v3 (bI f') (nI x + 1) M ∧ (f' = true → uB pr k = true) ∧ (f' = false → f = false ∧ ∀ j q, y ≤ j → cl[j]? = some q → KC pr x j → q.1 = 1 → ¬ q.2.1 = nI k) := by
  have hz := c.1.1
  have h6 := c.2.1
  have hx : x < pr.1.length := (List.getElem?_eq_some_iff.mp hcl).1
  obtain ⟨hl, g2, g3⟩ := c.2.2.2.2.2.1 x cl hcl
  rw [show 6 * 0 + x = x by omega] at g2
  intro t
  induction t with
  | nil =>
    intro y f h1 hy hd n hn
    obtain ⟨n', rfl⟩ : ∃ n', n = n' + 1 := ⟨n - 1, by omega⟩
    have hlen := dropN hd hy
    unfold g_R_giveNames_155
    rw [base0, cI_e, gR_e (by omega) c.1.2.1 (r3 c.1).1, aI_e (by omega) (r3 c.1).2 (by omega) (by decide), g2, nI_add, if_pos (nI_le (by omega) (by omega))]
    exact ⟨f, rfl, h1, fun hf => ⟨hf, fun j q hj hq => by have hjl : j < cl.length := (List.getElem?_eq_some_iff.mp hq).1; omega⟩⟩
  | cons q t ih =>
    intro y f h1 hy hd n hn
    obtain ⟨n', rfl⟩ : ∃ n', n = n' + 1 := ⟨n - 1, by omega⟩
    obtain ⟨hq, hd', hyl⟩ := dropC hd
    obtain ⟨q1, q2, q3⟩ := g3 y q hq
    rw [show 120 * 0 + 20 * x + y = 20 * x + y by omega] at q1 q2 q3
    simp only [List.length_cons] at hn
    unfold g_R_giveNames_155
    rw [base0, cI_e, gR_e (by omega) c.1.2.1 (r3 c.1).1, aI_e (by omega) (r3 c.1).2 (by omega) (by decide), g2, nI_add, if_neg (nI_ge (by omega) (by omega)), nI_1]
    cases f with
    | true =>
      rw [if_pos (by decide)]
      obtain ⟨f', a1, a2, a3⟩ := ih (y + 1) true h1 (by omega) hd' n' (by omega)
      exact ⟨f', a1, a2, fun hf => by have := (a3 hf).1; cases this⟩
    | false =>
      have hno : ¬ (KC pr x y ∧ q.1 = 1 ∧ q.2.1 = nI k) → ∃ f', g_R_giveNames_155 r71 r136 n' 268 v1 (nI k) v3 0 (nI x) (nI (20 * x + y + 1)) M = r136 268 v1 (nI k) v3 (bI f') (nI x + 1) M ∧ (f' = true → uB pr k = true) ∧ (f' = false → false = false ∧ ∀ j q, y ≤ j → cl[j]? = some q → KC pr x j → q.1 = 1 → ¬ q.2.1 = nI k) := by
        intro hne
        obtain ⟨f', a1, a2, a3⟩ := ih (y + 1) false (fun h => by cases h) (by omega) hd' n' (by omega)
        refine ⟨f', a1, a2, fun hf => ⟨rfl, fun j q' hj hq' hk h1 e => ?_⟩⟩
        by_cases ej : j = y
        · subst ej
          rw [hq] at hq'; cases hq'
          exact hne ⟨hk, h1, e⟩
        · exact (a3 hf).2 j q' (by omega) hq' hk h1 e
      rw [if_neg (fun h => h rfl), gR_e (by omega) c.1.2.1 (r17 c.1).1, aZ_e (by omega) (r17 c.1).2 (show 20 * x + y < 120 by omega) (by decide), hQ x y (by omega) (by omega)]
      by_cases hk : kQ pr x y = true
      · rw [hk, if_neg (by decide), gR_e (by omega) c.1.2.1 (r4 c.1).1, aI_e (by omega) (r4 c.1).2 (by omega) (by decide), q1]
        by_cases e1 : q.1 = 1
        · rw [if_neg (fun h => h e1), gR_e (by omega) c.1.2.1 (r5 c.1).1, aI_e (by omega) (r5 c.1).2 (by omega) (by decide), q2]
          by_cases e2 : q.2.1 = nI k
          · rw [if_neg (fun h => h e2)]
            obtain ⟨f', a1, a2, a3⟩ := ih (y + 1) true (fun _ => uB_t.mpr ⟨x, y, cl, q, hcl, hq, kQ_t.mp hk, e1, e2⟩) (by omega) hd' n' (by omega)
            exact ⟨f', a1, a2, fun hf => by have := (a3 hf).1; cases this⟩
          · rw [if_pos e2]; exact hno fun h => e2 h.2.2
        · rw [if_pos e1]; exact hno fun h => e1 h.2.1
      · rw [show kQ pr x y = false by simpa using hk, if_pos (show bI false = 0 from rfl)]
        exact hno fun h => hk (kQ_t.mpr h.1)
theorem s_R_used (hW : WF pr) (c : CtQ M pr) (hQ : MrD M pr) (r71 : Nat → Int32 → Int32 → XM → XP) (v1 v3 : Int32) {k : Nat} : ∀ (t : List (List CT)) (x : Nat) (f : Bool), (f = true → uB pr k = true) → (f = false → ∀ d j cl q, d < x → pr.1[d]? = some cl → cl[j]? = some q → KC pr d j → q.1 = 1 → ¬ q.2.1 = nI k) → x ≤ pr.1.length → pr.1.drop x = t → ∀ n, t.length < n →
    g_R_giveNames_136 r71 n 268 v1 (nI k) v3 (bI f) (nI x) M = if bI (uB pr k) = 0 then r71 268 v1 (nI k + 1) M else if ¬ v3 = 0 then r71 268 v1 (nI k + 1) M else g_R_giveNames_239 r71 FU 268 v1 (nI k) M := by
  have hz := c.1.1
  have h6 := c.2.1
  intro t
  induction t with
  | nil =>
    intro x f h1 h2 hx hd n hn
    obtain ⟨n', rfl⟩ : ∃ n', n = n' + 1 := ⟨n - 1, by omega⟩
    have hlen := dropN hd hx
    unfold g_R_giveNames_136
    rw [gR_e (by omega) c.1.2.1 (r1 c.1).1, aI_0 (by omega) (r1 c.1).2 (by decide) (by decide), c.2.2.1, if_pos (nI_le (by omega) (by omega))]
    cases f with
    | true => rw [h1 rfl]
    | false =>
      rw [bf_t uB_t fun ⟨d, j, cl, q, hcl, hq, hk, e1, e⟩ => h2 rfl d j cl q (by have hdl : d < pr.1.length := (List.getElem?_eq_some_iff.mp hcl).1; omega) hcl hq hk e1 e]
  | cons cl t ih =>
    intro x f h1 h2 hx hd n hn
    obtain ⟨n', rfl⟩ : ∃ n', n = n' + 1 := ⟨n - 1, by omega⟩
    obtain ⟨hcl, hd', hxl⟩ := dropC hd
    have hl := (c.2.2.2.2.2.1 x cl hcl).1
    simp only [List.length_cons] at hn
    unfold g_R_giveNames_136
    rw [gR_e (by omega) c.1.2.1 (r1 c.1).1, aI_0 (by omega) (r1 c.1).2 (by decide) (by decide), c.2.2.1, if_neg (nI_ge hxl (by omega)), base0, cI_e]
    obtain ⟨f', a1, a2, a3⟩ := s_R_used_j hW c hQ r71 (g_R_giveNames_136 r71 n') v1 v3 (k := k) hcl cl 0 f h1 (Nat.zero_le _) rfl FU (show _ < 5000 by omega)
    rw [show 20 * x = 20 * x + 0 by omega, a1, nI_1]
    refine ih (x + 1) f' a2 (fun hf d j dl q hd hdl hq hk e1 e => ?_) (by omega) hd' n' (by omega)
    obtain ⟨g1, g2⟩ := a3 hf
    by_cases ed : d = x
    · subst ed
      rw [hcl] at hdl; cases hdl
      exact g2 j q (Nat.zero_le _) hq hk e1 e
    · exact h2 g1 d j dl q (by omega) hdl hq hk e1 e
theorem s_R_give (hW : WF pr) : ∀ (r n b : Nat) (M : XM), n + r = 100 → CtQ M pr → MrD M pr → GnS M pr b n → ∀ f, r < f →
    ∃ N, g_R_giveNames_71 f 268 (nI b) (nI n) M = rV N ∧ Upd 287 289 M N ∧ ∀ k, k < 100 → (uB pr k = true ∨ eB pr k = true) → xi N 287 k = nmV pr k := by
  intro r
  induction r with
  | zero =>
    intro n b M hn c hQ h f hf
    obtain ⟨f', rfl⟩ : ∃ f', f = f' + 1 := ⟨f - 1, by omega⟩
    unfold g_R_giveNames_71
    rw [if_pos (show (100 : Int32) ≤ nI n from nI_le (a := 100) (by omega) (by omega))]
    refine ⟨M, rfl, Upd.rf, fun k hk hue => ?_⟩
    rw [h.2.2.2 k hk]
    by_cases he : eB pr k = true
    · rw [if_neg (by rw [he]; simp)]
      unfold nmV; rw [if_pos he]
    · have he' : eB pr k = false := by simpa using he
      rw [if_pos ⟨by omega, he', hue.resolve_right he⟩]
  | succ r ih =>
    intro n b M hn c hQ h f hf
    obtain ⟨f', rfl⟩ : ∃ f', f = f' + 1 := ⟨f - 1, by omega⟩
    have h30 := c.2.2.2.1
    have h6 := c.2.1
    have hnx := nx_le (eB pr) (uB pr) (n := n) (by omega)
    unfold g_R_giveNames_71
    rw [if_neg (show ¬ (100 : Int32) ≤ nI n from nI_ge (b := 100) (by omega) (by omega)), show g_R_giveNames_82 (g_R_giveNames_71 f') FU 268 (nI b) (nI n) 0 0 M = _ from s_R_stays hW c (g_R_giveNames_71 f') (nI b) (show n < 100 by omega) pr.2 0 false (fun h => by cases h) (fun _ m b hm => by omega) (Nat.zero_le _) rfl FU (show _ < 5000 by omega)]
    rw [show g_R_giveNames_136 (g_R_giveNames_71 f') FU 268 (nI b) (nI n) (bI (eB pr n)) 0 0 M = _ from s_R_used hW c hQ (g_R_giveNames_71 f') (nI b) (bI (eB pr n)) (k := n) pr.1 0 false (fun h => by cases h) (fun _ d j cl q hd => by omega) (Nat.zero_le _) rfl FU (show _ < 5000 by omega), nI_1]
    have skip : ¬ (eB pr n = false ∧ uB pr n = true) → nx (eB pr) (uB pr) (n + 1) = nx (eB pr) (uB pr) n → ∃ N, g_R_giveNames_71 f' 268 (nI b) (nI (n + 1)) M = rV N ∧ Upd 287 289 M N ∧ ∀ k, k < 100 → (uB pr k = true ∨ eB pr k = true) → xi N 287 k = nmV pr k := by
      intro hno he
      refine ih (n + 1) b M (by omega) c hQ ⟨by rw [he]; exact h.1, by rw [he]; exact h.2.1, by rw [he]; exact h.2.2.1, fun k hk => ?_⟩ f' (by omega)
      rw [h.2.2.2 k hk]
      by_cases hkn : k < n ∧ eB pr k = false ∧ uB pr k = true
      · rw [if_pos hkn, if_pos ⟨by omega, hkn.2⟩]
      · rw [if_neg hkn, if_neg]
        intro h'
        by_cases e : k = n
        · subst e; exact hno h'.2
        · exact hkn ⟨by omega, h'.2⟩
    by_cases hu : uB pr n = true
    · rw [hu, if_neg (by decide)]
      by_cases he : eB pr n = true
      · rw [he, if_pos (by decide)]
        exact skip (by rw [he]; simp) (by show (if _ then _ else _) = _; rw [if_pos he])
      · have he' : eB pr n = false := by simpa using he
        rw [he', if_neg (fun h => h rfl)]
        obtain ⟨l1, l2, l3, l4⟩ := lf_le hnx (show n < 100 by omega) he'
        have hnx1 : nx (eB pr) (uB pr) (n + 1) = lf (eB pr) (nx (eB pr) (uB pr) n) + 1 := by show (if _ then _ else if _ then _ else _) = _; rw [if_neg he, if_pos hu]
        have hnm : nmV pr n = nI (lf (eB pr) (nx (eB pr) (uB pr) n)) := by unfold nmV; rw [if_neg he, if_pos hu]
        generalize lf (eB pr) (nx (eB pr) (uB pr) n) = L at *
        have hb := h.1
        rw [s_R_least (E := eB pr) c (g_R_giveNames_71 f') (k := L) (n := n) (by omega) (by omega) (by rw [h.2.1 L (by omega) l1, l3]; rfl) (L - b) b (by omega) (fun j h1 h2 => by
          by_cases hj : j < nx (eB pr) (uB pr) n
          · exact h.2.2.1 j h1 hj
          · rw [h.2.1 j (by omega) (by omega), l4 j (by omega) h2]; decide) FU (show _ < 5000 by omega)]
        have hU : Upd 287 289 M (xpi (xpi M 288 L 1) 287 n (nI L)) := (Upd.rf.pi (by omega) (by omega)).pi (by omega) (by omega)
        obtain ⟨N, n1, n2, n3⟩ := ih (n + 1) L _ (by omega) ((hU.wide (by omega) (by omega) : Upd 282 289 M _).ctq c) (hQ.up (by rw [xi_row (by omega), xi_row (by omega)])) ⟨by omega, fun k hk hk2 => by
            rw [xi_ne1 (by omega), xi_no (by omega)]; exact h.2.1 k hk (by omega), fun k hk1 hk2 => by
            have e : k = L := by omega
            subst e
            rw [xi_ne1 (by omega), xi_eq]; decide, fun k hk => by
            by_cases e : k = n
            · subst e
              rw [xi_eq, if_pos ⟨by omega, he', hu⟩]; exact hnm.symm
            · rw [xi_no (by omega), xi_ne1 (by omega), h.2.2.2 k hk]
              by_cases hkn : k < n ∧ eB pr k = false ∧ uB pr k = true
              · rw [if_pos hkn, if_pos ⟨by omega, hkn.2⟩]
              · rw [if_neg hkn, if_neg fun h' => hkn ⟨by omega, h'.2⟩]⟩ f' (by omega)
        exact ⟨N, n1, hU.tr n2, n3⟩
    · rw [show uB pr n = false by simpa using hu, if_pos (show bI false = 0 from rfl)]
      refine skip (fun h => hu h.2) ?_
      show (if _ then _ else if _ then _ else _) = _
      rw [if_neg hu]
      split <;> rfl
theorem s_R_giveE (hW : WF pr) : ∀ (t : List MB) (x : Nat) (M : XM), CtQ M pr → MrD M pr → (∀ k, k < 100 → xi M 287 k = nI k) → (∀ k, k < 100 → xi M 288 k = 0 ∨ (xi M 288 k = 1 ∧ eN pr k)) → (∀ m b k, m < x → pr.2[m]? = some b → ¬ b.2.2.2.1 = 0 → nameV pr b = nI k → k < 100 → xi M 288 k = 1) → x ≤ pr.2.length → pr.2.drop x = t → ∀ n, t.length < n →
    ∃ N, g_R_giveNames_30 n 268 (nI x) M = rV N ∧ Upd 287 289 M N ∧ ∀ k, k < 100 → (uB pr k = true ∨ eB pr k = true) → xi N 287 k = nmV pr k := by
  intro t
  induction t with
  | nil =>
    intro x M c hQ h1 h2 h3 hx hd n hn
    obtain ⟨n', rfl⟩ : ∃ n', n = n' + 1 := ⟨n - 1, by omega⟩
    have hlen := dropN hd hx
    have hz := c.1.1
    have h30 := c.2.2.2.1
    unfold g_R_giveNames_30
    rw [gR_e (by omega) c.1.2.1 (r2 c.1).1, aI_0 (by omega) (r2 c.1).2 (by decide) (by decide), c.2.2.2.2.1, if_pos (nI_le (by omega) (by omega))]
    refine s_R_give hW 100 0 0 M (by omega) c hQ ⟨Nat.zero_le _, fun k hk _ => ?_, fun k h1 h2 => by have : nx (eB pr) (uB pr) 0 = 0 := rfl; omega, fun k hk => by rw [if_neg (by omega)]; exact h1 k hk⟩ FU (show 100 < 5000 by decide)
    rcases h2 k hk with e | ⟨e, he⟩
    · have hne : ¬ eN pr k := by
        rintro ⟨m, b, hb, h0, en⟩
        have := h3 m b k (by have hml : m < pr.2.length := (List.getElem?_eq_some_iff.mp hb).1; omega) hb h0 en hk
        rw [e] at this
        exact absurd this (by decide)
      rw [e, bf_t eB_t hne]; rfl
    · rw [e, eB_t.mpr he]; rfl
  | cons b t ih =>
    intro x M c hQ h1 h2 h3 hx hd n hn
    obtain ⟨n', rfl⟩ : ∃ n', n = n' + 1 := ⟨n - 1, by omega⟩
    obtain ⟨hb, hd', hxl⟩ := dropC hd
    have hz := c.1.1
    have h30 := c.2.2.2.1
    obtain ⟨e1, e2, e3, e4, -⟩ := c.2.2.2.2.2.2 x b hb
    rw [show 30 * 0 + x = x by omega] at e4
    simp only [List.length_cons] at hn
    unfold g_R_giveNames_30
    rw [gR_e (by omega) c.1.2.1 (r2 c.1).1, aI_0 (by omega) (r2 c.1).2 (by decide) (by decide), c.2.2.2.2.1, if_neg (nI_ge hxl (by omega)), gR_e (by omega) c.1.2.1 (r11 c.1).1, aZ_e (by omega) (r11 c.1).2 (by omega) (by decide), e4, nI_1]
    by_cases h0 : b.2.2.2.1 = 0
    · rw [if_pos h0]
      refine ih (x + 1) M c hQ h1 h2 (fun m b' k hm hb' h0' e hk => ?_) (by omega) hd' n' (by omega)
      by_cases em : m = x
      · subst em
        rw [hb] at hb'; cases hb'
        exact absurd h0 h0'
      · exact h3 m b' k (by omega) hb' h0' e hk
    · obtain ⟨k, hk, ek⟩ := nameV_at c.2.sz hW (List.mem_of_getElem? hb)
      rw [if_neg h0, gR_e (by omega) c.1.2.1 (r20 c.1).1, rv27 c.1, show g_R_nameOf 268 0 (nI x) M = rI (nameV pr b) M from s_R_nameOf (p := 0) c.1 (by decide) c.2 hW hb, cI_e, ek, sZ_e (by omega) (r20 c.1).2 hk (by decide) (Or.inr rfl)]
      have hU : Upd 287 289 M (xpi M 288 k 1) := Upd.rf.pi (by omega) (by omega)
      obtain ⟨N, n1, n2, n3⟩ := ih (x + 1) (xpi M 288 k 1) ((hU.wide (by omega) (by omega) : Upd 282 289 M _).ctq c) (hQ.up (xi_row (by omega))) (fun a ha => by rw [xi_ne1 (by omega)]; exact h1 a ha) (fun a ha => by
        by_cases e : a = k
        · subst e; rw [xi_eq]; exact Or.inr ⟨rfl, x, b, hb, h0, ek⟩
        · rw [xi_no (by omega)]; exact h2 a ha) (fun m b' k' hm hb' h0' e hk' => by
        by_cases hkk : k' = k
        · subst hkk; exact xi_eq _ _ _ _
        · rw [xi_no (by omega)]
          by_cases hmx : m = x
          · subst hmx
            rw [hb] at hb'; cases hb'
            exact absurd ((nI_eq (by omega) (by omega)).mp (e.symm.trans ek)) hkk
          · exact h3 m b' k' (by omega) hb' h0' e hk') (by omega) hd' n' (by omega)
      exact ⟨N, n1, hU.tr n2, n3⟩
theorem s_R_giveNames (hW : WF pr) : ∀ (r x : Nat) (M : XM), x + r = 100 → CtQ M pr → MrD M pr → (∀ k, k < x → xi M 287 k = nI k ∧ xi M 288 k = 0) → ∀ n, r < n →
    ∃ N, g_R_giveNames_2 n 268 (nI x) M = rV N ∧ Upd 287 289 M N ∧ ∀ k, k < 100 → (uB pr k = true ∨ eB pr k = true) → xi N 287 k = nmV pr k := by
  intro r
  induction r with
  | zero =>
    intro x M hx c hQ h n hn
    obtain ⟨n', rfl⟩ : ∃ n', n = n' + 1 := ⟨n - 1, by omega⟩
    have h30 := c.2.2.2.1
    unfold g_R_giveNames_2
    rw [if_pos (show (100 : Int32) ≤ nI x from nI_le (a := 100) (by omega) (by omega))]
    exact s_R_giveE hW pr.2 0 M c hQ (fun k hk => (h k (by omega)).1) (fun k hk => Or.inl (h k (by omega)).2) (fun m b k hm => by omega) (Nat.zero_le _) rfl FU (show _ < 5000 by omega)
  | succ r ih =>
    intro x M hx c hQ h n hn
    obtain ⟨n', rfl⟩ : ∃ n', n = n' + 1 := ⟨n - 1, by omega⟩
    have hz := c.1.1
    have hA1 : RefAt (xpi M 288 x 0) := c.1
    have hz1 := hA1.1
    unfold g_R_giveNames_2
    rw [if_neg (show ¬ (100 : Int32) ≤ nI x from nI_ge (b := 100) (by omega) (by omega)), gR_e (by omega) c.1.2.1 (r20 c.1).1, sZ_0 (by omega) (r20 c.1).2 (show x < 100 by omega) (by decide), gR_e (by omega) hA1.2.1 (r19 hA1).1, sI_e (by omega) (r19 hA1).2 (show x < 100 by omega) (by decide), nI_1]
    have hU : Upd 287 289 M (xpi (xpi M 288 x 0) 287 x (nI x)) := (Upd.rf.pi (by omega) (by omega)).pi (by omega) (by omega)
    obtain ⟨N, n1, n2, n3⟩ := ih (x + 1) _ (by omega) ((hU.wide (by omega) (by omega) : Upd 282 289 M _).ctq c) (hQ.up (by rw [xi_row (by omega), xi_row (by omega)])) (fun k hk => by
      by_cases e : k = x
      · subst e; exact ⟨xi_eq _ _ _ _, by rw [xi_ne1 (by omega), xi_eq]⟩
      · exact ⟨by rw [xi_no (by omega), xi_ne1 (by omega)]; exact (h k (by omega)).1, by rw [xi_ne1 (by omega), xi_no (by omega)]; exact (h k (by omega)).2⟩) n' (by omega)
    exact ⟨N, n1, hU.tr n2, n3⟩
end PGN
