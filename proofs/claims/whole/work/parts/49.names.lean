/-! names -/
def eN (pr : PR) (n : Nat) : Prop := ∃ (m : Nat) (b : MB), pr.2[m]? = some b ∧ ¬ b.2.2.2.1 = 0 ∧ nameV pr b = nI n
def uN (pr : PR) (n : Nat) : Prop := ∃ (c j : Nat) (cl : List CT) (q : CT), pr.1[c]? = some cl ∧ cl[j]? = some q ∧ KC pr c j ∧ q.1 = 1 ∧ q.2.1 = nI n
noncomputable def eB (pr : PR) (n : Nat) : Bool := @decide (eN pr n) (Classical.propDecidable _)
noncomputable def uB (pr : PR) (n : Nat) : Bool := @decide (uN pr n) (Classical.propDecidable _)
theorem eB_t {pr : PR} {m : Nat} : eB pr m = true ↔ eN pr m := @decide_eq_true_iff _ (Classical.propDecidable _)
theorem uB_t {pr : PR} {m : Nat} : uB pr m = true ↔ uN pr m := @decide_eq_true_iff _ (Classical.propDecidable _)
def lfn (E : Nat → Bool) : Nat → Nat → Nat
  | 0, s => s
  | f + 1, s => if E s = true then lfn E f (s + 1) else s
def lf (E : Nat → Bool) (s : Nat) : Nat := lfn E (100 - s) s
def nx (E U : Nat → Bool) : Nat → Nat
  | 0 => 0
  | n + 1 => if E n = true then nx E U n else if U n = true then lf E (nx E U n) + 1 else nx E U n
noncomputable def nmV (pr : PR) (n : Nat) : Int32 := if eB pr n = true then nI n else if uB pr n = true then nI (lf (eB pr) (nx (eB pr) (uB pr) n)) else -1
theorem lfn_le {E : Nat → Bool} : ∀ {f s n : Nat}, s ≤ n → n < s + f → E n = false → s ≤ lfn E f s ∧ lfn E f s ≤ n ∧ E (lfn E f s) = false ∧ ∀ k, s ≤ k → k < lfn E f s → E k = true
  | 0, s, n, h1, h2, _ => by omega
  | f + 1, s, n, h1, h2, h3 => by
    unfold lfn
    by_cases hE : E s = true
    · rw [if_pos hE]
      have hne : s ≠ n := fun e => by rw [e, h3] at hE; cases hE
      obtain ⟨a, b, c, d⟩ := lfn_le (E := E) (f := f) (s := s + 1) (n := n) (by omega) (by omega) h3
      refine ⟨by omega, b, c, fun k hk1 hk2 => ?_⟩
      by_cases e : k = s
      · rw [e]; exact hE
      · exact d k (by omega) hk2
    · rw [if_neg hE]
      exact ⟨Nat.le_refl _, h1, by simpa using hE, fun k hk1 hk2 => by omega⟩
theorem lf_le {E : Nat → Bool} {s n : Nat} (h1 : s ≤ n) (h2 : n < 100) (h3 : E n = false) : s ≤ lf E s ∧ lf E s ≤ n ∧ E (lf E s) = false ∧ ∀ k, s ≤ k → k < lf E s → E k = true := lfn_le h1 (by omega) h3
theorem nx_le (E U : Nat → Bool) : ∀ {n : Nat}, n ≤ 100 → nx E U n ≤ n
  | 0, _ => Nat.le_refl _
  | n + 1, h => by
    have h1 := nx_le E U (n := n) (by omega)
    unfold nx
    split
    · omega
    · split
      · rename_i hE hU
        have := lf_le (E := E) h1 (by omega) (by simpa using hE)
        omega
      · omega
/-! the class looks at names -/
def LkC (M : XM) (pr : PR) : Prop := ∀ n, n < 100 → xi M 247 n = 0 ∨ (xi M 247 n = 1 ∧ uN pr n)
theorem nameAt {pr : PR} (hW : WF pr) {cl : List CT} {q : CT} (hcl : cl ∈ pr.1) (hq : q ∈ cl) (h1 : q.1 = 1) : ∃ n, n < 100 ∧ q.2.1 = nI n := by
  rcases hW.1 cl hcl q hq with e | ⟨-, e⟩ | e | e
  · rw [h1] at e; exact absurd e (by decide)
  · exact e
  · rw [h1] at e; exact absurd e.1 (by decide)
  · rw [h1] at e; rcases e.1 with e | e <;> exact absurd e (by decide)
theorem nameV_at {pr : PR} (hz : Sz pr) (hW : WF pr) {b : MB} (hb : b ∈ pr.2) : ∃ n, n < 100 ∧ nameV pr b = nI n := by
  obtain ⟨⟨cl, q, h1, h2, h3⟩, -⟩ := hW.2 b hb
  obtain ⟨n, hn, e⟩ := nameAt hW (lk_mem h1) (lk_mem h2) h3
  refine ⟨n, hn, ?_⟩
  unfold nameV
  rw [h1]
  simp only
  unfold firstV
  rw [h2]
  exact e
section PNM
variable {M : XM} {pr : PR}
theorem s_K_look_i (hW : WF pr) {x : Nat} {cl : List CT} (hcl : pr.1[x]? = some cl) (r2 : Nat → Nat → Int32 → XM → XP) : ∀ (t : List CT) (y : Nat) (M : XM), CtK M pr → NumC M pr → LkC M pr → y ≤ cl.length → cl.drop y = t → ∀ n, t.length < n →
    ∃ N, g_K_lookAtNames_20 r2 n 236 2 (nI x) (2 + 3 + 4 * x) (nI y) M = r2 236 2 (nI x + 1) N ∧ Upd 247 248 M N ∧ LkC N pr ∧ (∀ n, n < 100 → xi M 247 n = 1 → xi N 247 n = 1) ∧ ∀ j q n, y ≤ j → cl[j]? = some q → KC pr x j → q.1 = 1 → q.2.1 = nI n → n < 100 → xi N 247 n = 1 := by
  intro t
  induction t with
  | nil =>
    intro y M c hN h hy hd n hn
    obtain ⟨n', rfl⟩ : ∃ n', n = n' + 1 := ⟨n - 1, by omega⟩
    have hlen := dropN hd hy
    obtain ⟨hc6, hxc, hPa, hPi⟩ := c.2.pool c.pg hcl
    have hzq := hPa.1
    have hl := hPi.1
    unfold g_K_lookAtNames_20
    rw [gI_e (by omega) hPa.2.1, hPi.2.1, if_pos (nI_le (by omega) (by omega))]
    exact ⟨M, rfl, Upd.rf, h, fun _ _ h => h, fun j q n hj hq => by have hjl : j < cl.length := (List.getElem?_eq_some_iff.mp hq).1; omega⟩
  | cons q t ih =>
    intro y M c hN h hy hd n hn
    obtain ⟨n', rfl⟩ : ∃ n', n = n' + 1 := ⟨n - 1, by omega⟩
    obtain ⟨hq, hd', hyl⟩ := dropC hd
    obtain ⟨hc6, hxc, hPa, hPi⟩ := c.2.pool c.pg hcl
    have hzq := hPa.1
    have hl := hPi.1
    obtain ⟨s1, s2, s3, s4, s5, s6, s7, s8, s9, s10, s11, s12, s13, s14, s15⟩ := id c.sh
    simp only [List.length_cons] at hn
    unfold g_K_lookAtNames_20
    rw [gI_e (by omega) hPa.2.1, hPi.2.1, if_neg (nI_ge hyl (by omega)), gR_e (by omega) s2 s11, aR_e (by omega) s5 hc6 (by decide) (s15 x hc6).1, aI_e (by omega) (s15 x hc6).2 (by omega) (by decide), hN.2.2 x y hc6 (by omega), nI_1]
    have skip : ¬ (KC pr x y ∧ q.1 = 1) → ∃ N, g_K_lookAtNames_20 r2 n' 236 2 (nI x) (2 + 3 + 4 * x) (nI (y + 1)) M = r2 236 2 (nI x + 1) N ∧ Upd 247 248 M N ∧ LkC N pr ∧ (∀ n, n < 100 → xi M 247 n = 1 → xi N 247 n = 1) ∧ ∀ j q n, y ≤ j → cl[j]? = some q → KC pr x j → q.1 = 1 → q.2.1 = nI n → n < 100 → xi N 247 n = 1 := by
      intro hno
      obtain ⟨N, n1, n2, n3, n4, n5⟩ := ih (y + 1) M c hN h (by omega) hd' n' (by omega)
      refine ⟨N, n1, n2, n3, n4, fun j q' k hj hq' hk h1 e hk' => ?_⟩
      by_cases ejy : j = y
      · subst ejy
        rw [hq] at hq'; cases hq'
        exact absurd ⟨hk, h1⟩ hno
      · exact n5 j q' k (by omega) hq' hk h1 e hk'
    by_cases hk : KC pr x y
    · have hne : ¬ num (kQ pr x) y = -1 := by
        unfold num
        rw [if_pos (kQ_t.mpr hk)]
        have := rk_le (kQ pr x) y
        exact fun e => nI_pos (show rk (kQ pr x) y < 2 ^ 31 by omega) (by rw [e]; decide)
      rw [if_neg hne, gR_e (by omega) hPa.2.1 hPa.2.2.2.2.2.1, aI_e (by omega) hPa.2.2.1 (by omega) (by decide), (hPi.2.2 y q hq).1]
      by_cases h1 : q.1 = 1
      · obtain ⟨k, hk100, ek⟩ := nameAt hW (List.mem_of_getElem? hcl) (List.mem_of_getElem? hq) h1
        rw [if_neg (fun h => h h1), gR_e (by omega) s2 s13, gR_e (by omega) hPa.2.1 hPa.2.2.2.2.2.2.1, aI_e (by omega) hPa.2.2.2.1 (by omega) (by decide), (hPi.2.2 y q hq).2.1, ek, sI_e (by omega) s7 hk100 (by decide)]
        have hU : Upd 247 248 M (xpi M 247 k 1) := Upd.rf.pi (by omega) (by omega)
        have hU' : Upd 236 249 M (xpi M 247 k 1) := hU.wide (by omega) (by omega)
        obtain ⟨N, n1, n2, n3, n4, n5⟩ := ih (y + 1) (xpi M 247 k 1) (hU'.ctk c) ⟨fun m hm => by rw [xi_ne1 (by omega)]; exact hN.1 m hm, fun m hm => by rw [xi_ne1 (by omega)]; exact hN.2.1 m hm, fun d j hd hj => by rw [xi_ne1 (by omega)]; exact hN.2.2 d j hd hj⟩ (fun a ha => by
          by_cases e : a = k
          · subst e; rw [xi_eq]; exact Or.inr ⟨rfl, x, y, cl, q, hcl, hq, hk, h1, ek⟩
          · rw [xi_no (by omega)]; exact h a ha) (by omega) hd' n' (by omega)
        refine ⟨N, n1, hU.tr n2, n3, fun a ha e => n4 a ha (by
          by_cases e' : a = k
          · subst e'; exact xi_eq _ _ _ _
          · rw [xi_no (by omega)]; exact e), fun j q' k' hj hq' hk' h1' e hk'' => ?_⟩
        by_cases ejy : j = y
        · subst ejy
          rw [hq] at hq'; cases hq'
          have : k = k' := (nI_eq (by omega) (by omega)).mp (ek.symm.trans e)
          subst this
          exact n4 k hk100 (xi_eq _ _ _ _)
        · exact n5 j q' k' (by omega) hq' hk' h1' e hk''
      · rw [if_pos h1]
        exact skip fun h => h1 h.2
    · rw [if_pos (show num (kQ pr x) y = -1 by unfold num; rw [bf_t kQ_t hk, if_neg (by decide)])]
      exact skip fun h => hk h.1
/-- what a name is used for -/
noncomputable def useV (pr : PR) (n : Nat) : Int32 := if eB pr n = true then 2 else if uB pr n = true then 1 else 0
theorem s_K_look_m (hW : WF pr) : ∀ (t : List MB) (x : Nat) (M : XM), CtK M pr → (∀ n, n < 100 → xi M 247 n = (if uB pr n = true then 1 else 0) ∨ (xi M 247 n = 2 ∧ eN pr n)) → (∀ m b n, m < x → pr.2[m]? = some b → ¬ b.2.2.2.1 = 0 → nameV pr b = nI n → n < 100 → xi M 247 n = 2) → x ≤ pr.2.length → pr.2.drop x = t → ∀ n, t.length < n →
    ∃ N, g_K_lookAtNames_80 n 236 2 (nI x) M = rV N ∧ Upd 247 248 M N ∧ ∀ n, n < 100 → xi N 247 n = useV pr n := by
  intro t
  induction t with
  | nil =>
    intro x M c h h2 hx hd n hn
    obtain ⟨n', rfl⟩ : ∃ n', n = n' + 1 := ⟨n - 1, by omega⟩
    have hlen := dropN hd hx
    have h30 := c.2.2.2.1
    have hzp := c.pg.1
    unfold g_K_lookAtNames_80
    rw [gI_e (by omega) c.pg.2.1, c.2.2.2.2.1, if_pos (nI_le (by omega) (by omega))]
    refine ⟨M, rfl, Upd.rf, fun k hk => ?_⟩
    unfold useV
    by_cases he : eN pr k
    · rw [if_pos (eB_t.mpr he)]
      obtain ⟨m, b, hb, h0, e⟩ := he
      exact h2 m b k (by have hml : m < pr.2.length := (List.getElem?_eq_some_iff.mp hb).1; omega) hb h0 e hk
    · rw [bf_t eB_t he, if_neg (by decide)]
      exact (h k hk).resolve_right fun h => he h.2
  | cons b t ih =>
    intro x M c h h2 hx hd n hn
    obtain ⟨n', rfl⟩ : ∃ n', n = n' + 1 := ⟨n - 1, by omega⟩
    obtain ⟨hb, hd', hxl⟩ := dropC hd
    have h30 := c.2.2.2.1
    have hzp := c.pg.1
    obtain ⟨s1, s2, s3, s4, s5, s6, s7, s8, s9, s10, s11, s12, s13, s14, s15⟩ := id c.sh
    obtain ⟨hm30, hxr, hMa, e1, e2, e3, e4, e5, e6, e7⟩ := c.2.memb c.pg hb
    have hza := hMa.1
    simp only [List.length_cons] at hn
    unfold g_K_lookAtNames_80
    rw [gI_e (by omega) c.pg.2.1, c.2.2.2.2.1, if_neg (nI_ge hxl (by omega)), gR_e (by omega) c.pg.2.1 c.pg.2.2.2.2.2.1, aR_e (by omega) c.pg.2.2.2.1 hm30 (by decide) hxr, gI_e (by omega) hMa.2.1, e4, nI_1]
    by_cases h0 : b.2.2.2.1 = 0
    · rw [if_pos h0]
      refine ih (x + 1) M c h (fun m b' k hm hb' h0' e hk => ?_) (by omega) hd' n' (by omega)
      by_cases hmx : m = x
      · subst hmx
        rw [hb] at hb'; cases hb'
        exact absurd h0 h0'
      · exact h2 m b' k (by omega) hb' h0' e hk
    · obtain ⟨k, hk, ek⟩ := nameV_at c.2.sz hW (List.mem_of_getElem? hb)
      rw [if_neg h0, gR_e (by omega) s2 s13, rv_e (by omega) c.pg.2.1, s_P_nameOf c.pg c.2 hW hb, cI_e, ek, sI_e (by omega) s7 hk (by decide)]
      have hU : Upd 247 248 M (xpi M 247 k 2) := Upd.rf.pi (by omega) (by omega)
      have hU' : Upd 236 249 M (xpi M 247 k 2) := hU.wide (by omega) (by omega)
      obtain ⟨N, n1, n2, n3⟩ := ih (x + 1) (xpi M 247 k 2) (hU'.ctk c) (fun a ha => by
        by_cases e : a = k
        · subst e; rw [xi_eq]; exact Or.inr ⟨rfl, x, b, hb, h0, ek⟩
        · rw [xi_no (by omega)]; exact h a ha) (fun m b' k' hm hb' h0' e hk' => by
        by_cases hkk : k' = k
        · subst hkk; exact xi_eq _ _ _ _
        · rw [xi_no (by omega)]
          by_cases hmx : m = x
          · subst hmx
            rw [hb] at hb'; cases hb'
            exact absurd ((nI_eq (by omega) (by omega)).mp (e.symm.trans ek)) hkk
          · exact h2 m b' k' (by omega) hb' h0' e hk') (by omega) hd' n' (by omega)
      exact ⟨N, n1, hU.tr n2, n3⟩
theorem NumC.up {N : XM} (h : Upd 246 249 M N) (hN : NumC M pr) : NumC N pr := ⟨fun m hm => by rw [h.2.2.2.2.2 _ (by omega)]; exact hN.1 m hm, fun m hm => by rw [h.2.2.2.2.2 _ (by omega)]; exact hN.2.1 m hm, fun d j hd hj => by rw [h.2.2.2.2.2 _ (by omega)]; exact hN.2.2 d j hd hj⟩
theorem s_K_look (hW : WF pr) (hC : Clo pr) : ∀ (t : List (List CT)) (x : Nat) (M : XM), CtK M pr → NumC M pr → LkC M pr → (∀ c j cl q n, c < x → pr.1[c]? = some cl → cl[j]? = some q → KC pr c j → q.1 = 1 → q.2.1 = nI n → n < 100 → xi M 247 n = 1) → x ≤ pr.1.length → pr.1.drop x = t → ∀ n, t.length < n →
    ∃ N, g_K_lookAtNames_2 n 236 2 (nI x) M = rV N ∧ Upd 247 248 M N ∧ ∀ n, n < 100 → xi N 247 n = useV pr n := by
  intro t
  induction t with
  | nil =>
    intro x M c hN h h2 hx hd n hn
    obtain ⟨n', rfl⟩ : ∃ n', n = n' + 1 := ⟨n - 1, by omega⟩
    have hlen := dropN hd hx
    have h6 := c.2.1
    have h30 := c.2.2.2.1
    have hzp := c.pg.1
    unfold g_K_lookAtNames_2
    rw [gI_e (by omega) c.pg.2.1, c.2.2.1, if_pos (nI_le (by omega) (by omega))]
    refine s_K_look_m hW pr.2 0 M c (fun k hk => Or.inl ?_) (fun m b k hm => by omega) (Nat.zero_le _) rfl FU (show _ < 5000 by omega)
    by_cases hu : uN pr k
    · rw [if_pos (uB_t.mpr hu)]
      obtain ⟨d, j, cl, q, hcl, hq, hkc, h1, e⟩ := hu
      exact h2 d j cl q k (by have hdl : d < pr.1.length := (List.getElem?_eq_some_iff.mp hcl).1; omega) hcl hq hkc h1 e hk
    · rw [bf_t uB_t hu, if_neg (by decide)]
      exact (h k hk).resolve_right fun h => hu h.2
  | cons cl t ih =>
    intro x M c hN h h2 hx hd n hn
    obtain ⟨n', rfl⟩ : ∃ n', n = n' + 1 := ⟨n - 1, by omega⟩
    obtain ⟨hcl, hd', hxl⟩ := dropC hd
    have h6 := c.2.1
    have hzp := c.pg.1
    obtain ⟨hc6, hxc, hPa, hPi⟩ := c.2.pool c.pg hcl
    have hl := hPi.1
    simp only [List.length_cons] at hn
    unfold g_K_lookAtNames_2
    rw [gI_e (by omega) c.pg.2.1, c.2.2.1, if_neg (nI_ge hxl (by omega)), gR_e (by omega) c.pg.2.1 c.pg.2.2.2.2.1, aR_e (by omega) c.pg.2.2.1 hc6 (by decide) hxc]
    obtain ⟨K, k1, k2, k3, k4, k5⟩ := s_K_look_i hW hcl (g_K_lookAtNames_2 n') cl 0 M c hN h (Nat.zero_le _) rfl FU (show _ < 5000 by omega)
    rw [show (0 : Int32) = nI 0 from rfl, k1, nI_1]
    obtain ⟨N, n1, n2, n3⟩ := ih (x + 1) K ((k2.wide (by omega) (by omega) : Upd 236 249 M K).ctk c) (hN.up (k2.wide (by omega) (by omega))) k3 (fun d j dl q k hdx hdl hq hkc h1 e hk => by
      by_cases edx : d = x
      · subst edx
        rw [hcl] at hdl; cases hdl
        exact k5 j q k (Nat.zero_le _) hq hkc h1 e hk
      · exact k4 k hk (h2 d j dl q k (by omega) hdl hq hkc h1 e hk)) (by omega) hd' n' (by omega)
    exact ⟨N, n1, k2.tr n2, n3⟩
theorem useV_2 {n : Nat} : useV pr n = 2 ↔ eB pr n = true := by
  unfold useV
  cases eB pr n with
  | true => simp
  | false => cases uB pr n <;> simp
theorem s_K_least (c : CtK M pr) (hU : ∀ n, n < 100 → xi M 247 n = useV pr n) {n : Nat} (hn : n < 100) (he : eB pr n = false) : ∀ (f s : Nat), s ≤ n → s + f = 100 → ∀ k, f < k → g_K_leastFreeName_2 k 236 (nI s) M = rI (nI (lfn (eB pr) f s)) M := by
  intro f
  induction f with
  | zero => intro s h1 h2; omega
  | succ f ih =>
    intro s h1 h2 k hk
    obtain ⟨k', rfl⟩ : ∃ k', k = k' + 1 := ⟨k - 1, by omega⟩
    obtain ⟨s1, s2, s3, s4, s5, s6, s7, s8, s9, s10, s11, s12, s13, s14, s15⟩ := id c.sh
    unfold g_K_leastFreeName_2 lfn
    rw [if_neg (show ¬ (100 : Int32) ≤ nI s from nI_ge (b := 100) (by omega) (by omega)), gR_e (by omega) s2 s13, aI_e (by omega) s7 (show s < 100 by omega) (by decide), hU s (by omega)]
    by_cases hE : eB pr s = true
    · rw [if_pos (useV_2.mpr hE), if_pos hE, nI_1]
      have : s ≠ n := fun e => by rw [e, he] at hE; cases hE
      exact ih (s + 1) (by omega) (by omega) k' (by omega)
    · rw [if_neg (fun h => hE (useV_2.mp h)), if_neg hE]
theorem s_K_give : ∀ (r n : Nat) (M : XM), n + r = 100 → CtK M pr → (∀ n, n < 100 → xi M 247 n = useV pr n) → (∀ k, k < 100 → xi M 246 k = if k < n then nmV pr k else -1) → ∀ f, r < f →
    ∃ N, g_K_giveNames_4 f 236 (nI (nx (eB pr) (uB pr) n)) (nI n) M = rV N ∧ Upd 246 247 M N ∧ ∀ k, k < 100 → xi N 246 k = nmV pr k := by
  intro r
  induction r with
  | zero =>
    intro n M hn c hU h f hf
    obtain ⟨f', rfl⟩ : ∃ f', f = f' + 1 := ⟨f - 1, by omega⟩
    unfold g_K_giveNames_4
    rw [if_pos (show (100 : Int32) ≤ nI n from nI_le (a := 100) (by omega) (by omega))]
    exact ⟨M, rfl, Upd.rf, fun k hk => by rw [h k hk, if_pos (by omega)]⟩
  | succ r ih =>
    intro n M hn c hU h f hf
    obtain ⟨f', rfl⟩ : ∃ f', f = f' + 1 := ⟨f - 1, by omega⟩
    obtain ⟨s1, s2, s3, s4, s5, s6, s7, s8, s9, s10, s11, s12, s13, s14, s15⟩ := id c.sh
    have hnx := nx_le (eB pr) (uB pr) (n := n) (by omega)
    unfold g_K_giveNames_4
    rw [if_neg (show ¬ (100 : Int32) ≤ nI n from nI_ge (b := 100) (by omega) (by omega)), gR_e (by omega) s2 s13, aI_e (by omega) s7 (show n < 100 by omega) (by decide), hU n (by omega)]
    have wr : ∀ {v : Int32} {k2 : Nat}, v = nmV pr n → nx (eB pr) (uB pr) (n + 1) = k2 → ∃ N, g_K_giveNames_4 f' 236 (nI k2) (nI (n + 1)) (xpi M 246 n v) = rV N ∧ Upd 246 247 M N ∧ ∀ k, k < 100 → xi N 246 k = nmV pr k := by
      intro v k2 hv hk2
      have hU1 : Upd 246 247 M (xpi M 246 n v) := Upd.rf.pi (by omega) (by omega)
      obtain ⟨N, n1, n2, n3⟩ := ih (n + 1) (xpi M 246 n v) (by omega) ((hU1.wide (by omega) (by omega) : Upd 236 249 M _).ctk c) (fun k hk => by rw [xi_ne1 (by omega)]; exact hU k hk) (fun k hk => by
        by_cases e : k = n
        · subst e; rw [xi_eq, if_pos (by omega)]; exact hv
        · rw [xi_no (by omega), h k hk]
          by_cases hkn : k < n
          · rw [if_pos hkn, if_pos (by omega)]
          · rw [if_neg hkn, if_neg (by omega)]) f' (by omega)
      rw [hk2] at n1
      exact ⟨N, n1, hU1.tr n2, n3⟩
    by_cases hE : eB pr n = true
    · rw [if_neg (fun h => h (useV_2.mpr hE)), gR_e (by omega) s2 s12, sI_e (by omega) s6 (show n < 100 by omega) (by decide), nI_1]
      exact wr (by unfold nmV; rw [if_pos hE]) (by show (if _ then _ else _) = _; rw [if_pos hE])
    · rw [if_pos (fun h => hE (useV_2.mp h)), gR_e (by omega) s2 s13, aI_e (by omega) s7 (show n < 100 by omega) (by decide), hU n (by omega)]
      by_cases hu : uB pr n = true
      · have hv : useV pr n = 1 := by unfold useV; rw [if_neg hE, if_pos hu]
        rw [if_neg (fun h => h hv), rv24 c]
        unfold g_K_leastFreeName
        rw [s_K_least c hU (show n < 100 by omega) (by simpa using hE) (100 - nx (eB pr) (uB pr) n) (nx (eB pr) (uB pr) n) hnx (by omega) FU (show _ < 5000 by omega), cI_e, gR_e (by omega) s2 s12, sI_e (by omega) s6 (show n < 100 by omega) (by decide), nI_1, nI_1]
        exact wr (by unfold nmV; rw [if_neg hE, if_pos hu]; rfl) (by show (if _ then _ else if _ then _ else _) = _; rw [if_neg hE, if_pos hu]; rfl)
      · have hv : useV pr n = 0 := by unfold useV; rw [if_neg hE, if_neg hu]
        rw [hv, if_pos (by decide), nI_1]
        obtain ⟨N, n1, n2, n3⟩ := ih (n + 1) M (by omega) c hU (fun k hk => by
          rw [h k hk]
          by_cases hkn : k < n
          · rw [if_pos hkn, if_pos (by omega)]
          · rw [if_neg hkn]
            by_cases e : k = n
            · subst e; rw [if_pos (by omega)]; unfold nmV; rw [if_neg hE, if_neg hu]
            · rw [if_neg (by omega)]) f' (by omega)
        have e : nx (eB pr) (uB pr) (n + 1) = nx (eB pr) (uB pr) n := by show (if _ then _ else if _ then _ else _) = _; rw [if_neg hE, if_neg hu]
        rw [e] at n1
        exact ⟨N, n1, n2, n3⟩
end PNM
