/-! the class forgets, keeps, closes up -/
noncomputable def kM (pr : PR) (m : Nat) : Bool := @decide (Kept pr m) (Classical.propDecidable _)
noncomputable def kC (pr : PR) (c : Nat) : Bool := @decide (PC pr c) (Classical.propDecidable _)
noncomputable def kQ (pr : PR) (c j : Nat) : Bool := @decide (KC pr c j) (Classical.propDecidable _)
theorem kM_t {pr : PR} {m : Nat} : kM pr m = true ↔ Kept pr m := @decide_eq_true_iff _ (Classical.propDecidable _)
theorem kC_t {pr : PR} {m : Nat} : kC pr m = true ↔ PC pr m := @decide_eq_true_iff _ (Classical.propDecidable _)
theorem kQ_t {pr : PR} {c j : Nat} : kQ pr c j = true ↔ KC pr c j := @decide_eq_true_iff _ (Classical.propDecidable _)
/-- a number, or none -/
def num (P : Nat → Bool) (k : Nat) : Int32 := if P k = true then nI (rk P k) else -1
theorem num_congr {P Q : Nat → Bool} {j : Nat} (h : ∀ k, k ≤ j → P k = Q k) : num P j = num Q j := by
  unfold num
  rw [h j (Nat.le_refl _), rk_congr (n := j) fun k hk => h k (by omega)]
theorem rk_zero {P : Nat → Bool} : ∀ {n : Nat}, (∀ j, j < n → P j = false) → rk P n = 0
  | 0, _ => rfl
  | n + 1, h => by
    show rk P n + (if P n = true then 1 else 0) = 0
    rw [rk_zero (n := n) fun j hj => h j (by omega), h n (by omega)]
    rfl
section PCU
variable {M : XM} {pr : PR}
theorem s_closeUp_l {a L s : Nat} (hs : s ≤ L) (hL : L < 1000) (M0 : XM) : ∀ (r k : Nat) (M : XM), k + r = s → a < xz M → xt M a = (0, L) → (∀ j, k ≤ j → xi M a j = xi M0 a j) → ∀ n, r < n →
    ∃ N, g_K_closeUp_4 n a (nI s) (nI (rk (fun k => decide (¬ xi M0 a k = -1)) k)) (nI k) M = rV N ∧ Upd a (a + 1) M N ∧ ∀ j, xi N a j = if k ≤ j ∧ j < s then num (fun k => decide (¬ xi M0 a k = -1)) j else xi M a j := by
  intro r
  induction r with
  | zero =>
    intro k M hk h1 h2 h3 n hn
    obtain ⟨n', rfl⟩ : ∃ n', n = n' + 1 := ⟨n - 1, by omega⟩
    unfold g_K_closeUp_4
    rw [if_pos (nI_le (by omega) (by omega))]
    exact ⟨M, rfl, Upd.rf, fun j => by rw [if_neg (by omega)]⟩
  | succ r ih =>
    intro k M hk h1 h2 h3 n hn
    obtain ⟨n', rfl⟩ : ∃ n', n = n' + 1 := ⟨n - 1, by omega⟩
    unfold g_K_closeUp_4
    rw [if_neg (nI_ge (by omega) (by omega)), aI_e h1 h2 (by omega) (by omega), h3 k (by omega), nI_1]
    by_cases h0 : xi M0 a k = -1
    · have e : rk (fun k => decide (¬ xi M0 a k = -1)) (k + 1) = rk (fun k => decide (¬ xi M0 a k = -1)) k := by
        show _ + (if _ then 1 else 0) = _
        simp [h0]
      obtain ⟨N, n1, n2, n3⟩ := ih (k + 1) M (by omega) h1 h2 (fun j hj => h3 j (by omega)) n' (by omega)
      rw [if_pos h0]
      rw [e] at n1
      refine ⟨N, n1, n2, fun j => ?_⟩
      rw [n3]
      by_cases hj : j = k
      · subst hj
        rw [if_neg (by omega), if_pos (by omega), h3 j (by omega), h0]
        unfold num
        simp [h0]
      · by_cases hj2 : k + 1 ≤ j ∧ j < s
        · rw [if_pos hj2, if_pos (by omega)]
        · rw [if_neg hj2, if_neg (by omega)]
    · have e : rk (fun k => decide (¬ xi M0 a k = -1)) (k + 1) = rk (fun k => decide (¬ xi M0 a k = -1)) k + 1 := by
        show _ + (if _ then 1 else 0) = _
        simp [h0]
      rw [if_neg h0, sI_e h1 h2 (by omega) (by omega), nI_1]
      obtain ⟨N, n1, n2, n3⟩ := ih (k + 1) (xpi M a k (nI (rk (fun k => decide (¬ xi M0 a k = -1)) k))) (by omega) h1 h2 (fun j hj => by rw [xi_no (by omega)]; exact h3 j (by omega)) n' (by omega)
      rw [e] at n1
      refine ⟨N, n1, (Upd.rf.pi (by omega) (by omega)).tr n2, fun j => ?_⟩
      rw [n3]
      by_cases hj : j = k
      · subst hj
        rw [if_neg (by omega), if_pos (by omega), xi_eq]
        unfold num
        simp [h0]
      · by_cases hj2 : k + 1 ≤ j ∧ j < s
        · rw [if_pos hj2, if_pos (by omega)]
        · rw [if_neg hj2, if_neg (by omega), xi_no (by omega)]
theorem s_closeUp {a L s : Nat} (hs : s ≤ L) (hL : L < 1000) (h1 : a < xz M) (h2 : xt M a = (0, L)) {P : Nat → Bool} (hP : ∀ j, j < L → (xi M a j = -1 ∧ P j = false) ∨ (¬ xi M a j = -1 ∧ P j = true)) (hPs : ∀ j, s ≤ j → j < L → P j = false) : ∃ N, g_K_closeUp a (nI s) M = rV N ∧ Upd a (a + 1) M N ∧ ∀ j, j < L → xi N a j = num P j := by
  obtain ⟨N, n1, n2, n3⟩ := s_closeUp_l hs hL M s 0 M (by omega) h1 h2 (fun _ _ => rfl) FU (show s < 5000 by omega)
  refine ⟨N, n1, n2, fun j hj => ?_⟩
  have hPe : ∀ k, k < L → decide (¬ xi M a k = -1) = P k := fun k hk => by rcases hP k hk with ⟨e1, e2⟩ | ⟨e1, e2⟩ <;> rw [e2] <;> simp [e1]
  rw [n3]
  by_cases hjs : j < s
  · rw [if_pos (by omega)]
    exact num_congr fun k hk => hPe k (by omega)
  · rw [if_neg (by omega)]
    have hPf := hPs j (by omega) hj
    unfold num
    rw [hPf, if_neg (by decide)]
    rcases hP j hj with ⟨e1, e2⟩ | ⟨e1, e2⟩
    · exact e1
    · rw [hPf] at e2; cases e2
theorem Upd.row {a : Nat} {N : XM} (h : Upd a (a + 1) M N) (h1 : 236 ≤ a) (h2 : a < 249) : Upd 236 249 M N := h.wide h1 (by omega)
theorem Upd.xr {a b : Nat} {N : XM} (h : Upd a (a + 1) M N) (hb : b ≠ a) : xi N b = xi M b := h.2.2.2.2.2 b (by omega)
theorem s_K_forget_l : ∀ (r c : Nat) (M : XM), c + r = 6 → CtK M pr → (∀ d j, d < c → j < 20 → xi M (240 + d) j = -1) → ∀ n, r < n →
    ∃ N, g_K_forget_18 n 236 (nI c) M = rV N ∧ Upd 236 249 M N ∧ xi N 237 = xi M 237 ∧ xi N 238 = xi M 238 ∧ (∀ d j, d < 6 → j < 20 → xi N (240 + d) j = -1) ∧ (∀ j, j < 100 → xi N 246 j = -1) ∧ (∀ j, j < 100 → xi N 247 j = 0) ∧ xi N 236 6 = 0 := by
  intro r
  induction r with
  | zero =>
    intro c M hc cc h n hn
    obtain ⟨n', rfl⟩ : ∃ n', n = n' + 1 := ⟨n - 1, by omega⟩
    obtain ⟨s1, s2, s3, s4, s5, s6, s7, s8, s9, s10, s11, s12, s13, s14, s15⟩ := id cc.sh
    unfold g_K_forget_18
    obtain ⟨N1, a1, a2, a3⟩ := s_fill (M := M) (a := 246) (-1) (by decide) (by omega) s6
    have c1 := (a2.row (by omega) (by omega)).ctk cc
    obtain ⟨t1, t2, t3, t4, t5, t6, t7, t8, t9, t10, t11, t12, t13, t14, t15⟩ := id c1.sh
    obtain ⟨N2, b1, b2, b3⟩ := s_fill (M := N1) (a := 247) 0 (by decide) (by omega) t7
    have c2 := (b2.row (by omega) (by omega)).ctk c1
    have hz2 := c2.sh.1
    rw [if_pos (show (6 : Int32) ≤ nI c from nI_le (a := 6) (by omega) (by omega)), gR_e (by omega) s2 s12, a1, cV_e, gR_e (by omega) t2 t13, b1, cV_e, uI_e (by omega) c2.sh.2.1]
    refine ⟨_, rfl, ((a2.row (by omega) (by omega)).tr (b2.row (by omega) (by omega))).pi (by omega) (by omega), ?_, ?_, fun d j hd hj => ?_, fun j hj => ?_, fun j hj => ?_, xi_eq _ _ _ _⟩
    · rw [xi_row (by omega), b2.xr (by omega), a2.xr (by omega)]
    · rw [xi_row (by omega), b2.xr (by omega), a2.xr (by omega)]
    · rw [xi_row (by omega), b2.xr (by omega), a2.xr (by omega)]; exact h d j (by omega) hj
    · rw [xi_row (by omega), b2.xr (by omega)]; exact a3 j hj
    · rw [xi_row (by omega)]; exact b3 j hj
  | succ r ih =>
    intro c M hc cc h n hn
    obtain ⟨n', rfl⟩ : ∃ n', n = n' + 1 := ⟨n - 1, by omega⟩
    obtain ⟨s1, s2, s3, s4, s5, s6, s7, s8, s9, s10, s11, s12, s13, s14, s15⟩ := id cc.sh
    unfold g_K_forget_18
    obtain ⟨N1, a1, a2, a3⟩ := s_fill (M := M) (a := 240 + c) (-1) (by decide) (by omega) (s15 c (by omega)).2
    have hU := a2.row (by omega) (by omega)
    rw [if_neg (show ¬ (6 : Int32) ≤ nI c from nI_ge (b := 6) (by omega) (by omega)), gR_e (by omega) s2 s11, aR_e (by omega) s5 (show c < 6 by omega) (by decide) (s15 c (by omega)).1, a1, cV_e, nI_1]
    obtain ⟨N, n1, n2, n3, n4, n5⟩ := ih (c + 1) N1 (by omega) (hU.ctk cc) (fun d j hd hj => by
      by_cases e : d = c
      · subst e; exact a3 j hj
      · rw [a2.xr (by omega)]; exact h d j (by omega) hj) n' (by omega)
    exact ⟨N, n1, hU.tr n2, by rw [n3, a2.xr (by omega)], by rw [n4, a2.xr (by omega)], n5⟩
theorem s_K_forget (c : CtK M pr) : ∃ N, g_K_forget 236 M = rV N ∧ Upd 236 249 M N ∧ Kp N pr ∧ (∀ j, j < 100 → xi N 246 j = -1) ∧ (∀ j, j < 100 → xi N 247 j = 0) := by
  obtain ⟨s1, s2, s3, s4, s5, s6, s7, s8, s9, s10, s11, s12, s13, s14, s15⟩ := id c.sh
  obtain ⟨N1, a1, a2, a3⟩ := s_fill (M := M) (a := 237) (-1) (by decide) (by omega) s3
  have c1 := (a2.row (by omega) (by omega)).ctk c
  obtain ⟨t1, t2, t3, t4, t5, t6, t7, t8, t9, t10, t11, t12, t13, t14, t15⟩ := id c1.sh
  obtain ⟨N2, b1, b2, b3⟩ := s_fill (M := N1) (a := 238) (-1) (by decide) (by omega) t4
  have c2 := (b2.row (by omega) (by omega)).ctk c1
  obtain ⟨N, n1, n2, n3, n4, n5, n6, n7, n8⟩ := s_K_forget_l (pr := pr) 6 0 N2 (by omega) c2 (fun d j hd => by omega) FU (show 6 < 5000 by decide)
  have e237 : ∀ m, m < 30 → xi N 237 m = -1 := fun m hm => by rw [n3, b2.xr (by omega)]; exact a3 m hm
  have ek : kN N = 0 := rk_zero fun j hj => by unfold kB; simp [e237 j hj]
  unfold g_K_forget
  rw [gR_e (by omega) s2 s9, a1, cV_e, gR_e (by omega) t2 t10, b1, cV_e]
  refine ⟨N, n1, ((a2.row (by omega) (by omega)).tr (b2.row (by omega) (by omega))).tr n2, ⟨fun m hm => Or.inl (e237 m hm), fun d hd => Or.inl (by rw [n4]; exact b3 d hd), fun d j hd hj => Or.inl (n5 d j hd hj), by rw [ek]; exact n8, fun j hj => by omega, fun m hm hn => absurd (e237 m hm) hn⟩, n6, n7⟩
/-! all closed up -/
theorem KC.lt (hz : Sz pr) (hW : WF pr) (hC : Clo pr) {c j : Nat} (hj : j < 20) (hc : c < 6) (h : KC pr c j) : ∃ cl, pr.1[c]? = some cl ∧ j < cl.length := by
  obtain ⟨m, b, cl, hk, hb, ec, hcl, hm⟩ := h
  have hbm := List.mem_of_getElem? hb
  obtain ⟨c', j', cl', c6, j20, ec', ej', hcl', hc1, hj1, hl20⟩ := okM.at hz (hW.2 b hbm)
  rw [hcl] at hcl'; cases hcl'
  have e : c = c' := (nI_eq (by omega) (by omega)).mp (ec.symm.trans ec')
  subst e
  refine ⟨cl, hc1, ?_⟩
  rcases hm with e | ⟨i, hi, hu, hm⟩
  · have : j = j' := (nI_eq (by omega) (by omega)).mp (e.symm.trans ej')
    omega
  · obtain ⟨p, q, ep, hp, hq, q0, q1⟩ := use_const hz.2.1 hl20 hcl (hC b hbm i hi) hu
    rcases hm with e | ⟨hr, q', hq', e⟩
    · have : j = p := (nI_eq (by omega) (by omega)).mp (e.symm.trans ep)
      omega
    · rw [ep, lk_nI (by omega), hq] at hq'
      cases hq'
      obtain ⟨j1, j2, l1, l2, ej1, ej2, -⟩ := two_const hW (lk_mem hcl) hl20 (List.mem_of_getElem? hq) (by rw [(q1 hr).1]; exact refK_34 i)
      rcases e with e | e
      · have : j = j1 := (nI_eq (by omega) (by omega)).mp (e.symm.trans ej1)
        omega
      · have : j = j2 := (nI_eq (by omega) (by omega)).mp (e.symm.trans ej2)
        omega
theorem PC.lt (hz : Sz pr) (hW : WF pr) {c : Nat} (hc : c < 6) (h : PC pr c) : c < pr.1.length := by
  obtain ⟨m, b, hk, hb, ec⟩ := h
  obtain ⟨c', j', cl', c6, j20, ec', ej', hcl', hc1, hj1, hl20⟩ := okM.at hz (hW.2 b (List.mem_of_getElem? hb))
  have e : c = c' := (nI_eq (by omega) (by omega)).mp (ec.symm.trans ec')
  subst e
  exact (List.getElem?_eq_some_iff.mp hc1).1
/-- all is kept that must be -/
def KpD (M : XM) (pr : PR) : Prop := (∀ m, m < 30 → (xi M 237 m = -1 ∧ kM pr m = false) ∨ (¬ xi M 237 m = -1 ∧ kM pr m = true)) ∧ (∀ c, c < 6 → (xi M 238 c = -1 ∧ kC pr c = false) ∨ (¬ xi M 238 c = -1 ∧ kC pr c = true)) ∧ ∀ c j, c < 6 → j < 20 → (xi M (240 + c) j = -1 ∧ kQ pr c j = false) ∨ (¬ xi M (240 + c) j = -1 ∧ kQ pr c j = true)
theorem bf_t {b : Bool} {P : Prop} (h : b = true ↔ P) (hn : ¬ P) : b = false := by cases b; rfl; exact absurd (h.mp rfl) hn
theorem KpD.of (hz : Sz pr) (hW : WF pr) (h : Kp M pr) (he : ∀ m, Entr pr m → ¬ xi M 237 m = -1) (hd : ∀ m, m < 30 → ¬ xi M 237 m = -1 → DnM M pr m) : KpD M pr := by
  have h30 := hz.2.1
  have hK : ∀ m, Kept pr m → ¬ xi M 237 m = -1 := by
    intro m hm
    refine (hm (fun k => k < pr.2.length ∧ ¬ xi M 237 k = -1) (fun k hk => ⟨(Kept.entr hk).lt, he k hk⟩) fun m k ⟨h1, h2⟩ h3 => ⟨h3.1, ?_⟩).2
    obtain ⟨hk, b, cl, i, hb, hcl, hi, hr, e⟩ := h3
    obtain ⟨c', j', cl', c6, j20, ec', ej', hcl', hc1, hj1, hl20⟩ := okM.at hz (hW.2 b (List.mem_of_getElem? hb))
    exact (hd m (by omega) h2 b cl c' hb hcl ec' c6 i hi).2 hr k hk e
  refine ⟨fun m hm => ?_, fun c hc => ?_, fun c j hc hj => ?_⟩
  · by_cases h0 : xi M 237 m = -1
    · exact Or.inl ⟨h0, bf_t kM_t fun hk => hK m hk h0⟩
    · exact Or.inr ⟨h0, kM_t.mpr ((h.1 m hm).resolve_left h0).2⟩
  · by_cases h0 : xi M 238 c = -1
    · refine Or.inl ⟨h0, bf_t kC_t fun hk => ?_⟩
      obtain ⟨m, b, hk, hb, ec⟩ := hk
      obtain ⟨c', j', cl', c6, j20, ec', ej', hcl', hc1, hj1, hl20⟩ := okM.at hz (hW.2 b (List.mem_of_getElem? hb))
      have := hk.lt
      exact ((h.2.2.2.2.2 m (by omega) (hK m hk)).2 b c j' hb ec ej' hc j20).1 h0
    · exact Or.inr ⟨h0, kC_t.mpr ((h.2.1 c hc).resolve_left h0).2⟩
  · by_cases h0 : xi M (240 + c) j = -1
    · refine Or.inl ⟨h0, bf_t kQ_t fun hk => ?_⟩
      obtain ⟨m, b, cl, hk, hb, ec, hcl, hm⟩ := hk
      have := hk.lt
      rcases hm with e | ⟨i, hi, hm⟩
      · exact ((h.2.2.2.2.2 m (by omega) (hK m hk)).2 b c j hb ec e hc hj).2 h0
      · exact (hd m (by omega) (hK m hk) b cl c hb hcl ec hc i hi).1 j hj hm h0
    · exact Or.inr ⟨h0, kQ_t.mpr ((h.2.2.1 c j hc hj).resolve_left h0).2⟩
/-- the numbers -/
def NumC (M : XM) (pr : PR) : Prop := (∀ m, m < 30 → xi M 237 m = num (kM pr) m) ∧ (∀ c, c < 6 → xi M 238 c = num (kC pr) c) ∧ ∀ c j, c < 6 → j < 20 → xi M (240 + c) j = num (kQ pr c) j
theorem s_K_close_l (hW : WF pr) (hC : Clo pr) : ∀ (t : List (List CT)) (x : Nat) (M : XM), CtK M pr → (∀ c j, c < 6 → j < 20 → (x ≤ c → (xi M (240 + c) j = -1 ∧ kQ pr c j = false) ∨ (¬ xi M (240 + c) j = -1 ∧ kQ pr c j = true)) ∧ (c < x → xi M (240 + c) j = num (kQ pr c) j)) → x ≤ pr.1.length → pr.1.drop x = t → ∀ n, t.length < n →
    ∃ N, g_K_closeUpAll_24 n 236 2 (nI x) M = rV N ∧ Upd 240 246 M N ∧ ∀ c j, c < 6 → j < 20 → xi N (240 + c) j = num (kQ pr c) j := by
  intro t
  induction t with
  | nil =>
    intro x M c h hx hd n hn
    obtain ⟨n', rfl⟩ : ∃ n', n = n' + 1 := ⟨n - 1, by omega⟩
    have hlen := dropN hd hx
    have h6 := c.2.1
    have hzp := c.pg.1
    unfold g_K_closeUpAll_24
    rw [gI_e (by omega) c.pg.2.1, c.2.2.1, if_pos (nI_le (by omega) (by omega))]
    refine ⟨M, rfl, Upd.rf, fun d j hd' hj => ?_⟩
    by_cases e : d < x
    · exact (h d j hd' hj).2 e
    · have hf : kQ pr d j = false := bf_t kQ_t fun hk => by
        obtain ⟨cl, hcl, -⟩ := KC.lt c.2.sz hW hC hj hd' hk
        have hdl : d < pr.1.length := (List.getElem?_eq_some_iff.mp hcl).1
        omega
      rcases (h d j hd' hj).1 (by omega) with ⟨e1, e2⟩ | ⟨e1, e2⟩
      · rw [e1]; unfold num; rw [hf, if_neg (by decide)]
      · rw [hf] at e2; cases e2
  | cons cl t ih =>
    intro x M c h hx hd n hn
    obtain ⟨n', rfl⟩ : ∃ n', n = n' + 1 := ⟨n - 1, by omega⟩
    obtain ⟨hcl, hd', hxl⟩ := dropC hd
    have h6 := c.2.1
    have hzp := c.pg.1
    obtain ⟨s1, s2, s3, s4, s5, s6, s7, s8, s9, s10, s11, s12, s13, s14, s15⟩ := id c.sh
    obtain ⟨hc6, hxc, hPa, hPi⟩ := c.2.pool c.pg hcl
    have hzq := hPa.1
    simp only [List.length_cons] at hn
    obtain ⟨N1, a1, a2, a3⟩ := s_closeUp (M := M) (a := 240 + x) (L := 20) (s := cl.length) (P := kQ pr x) hPi.1 (by decide) (by omega) (s15 x hc6).2 (fun j hj => (h x j hc6 hj).1 (Nat.le_refl _)) (fun j hj hj2 => bf_t kQ_t fun hk => by
      obtain ⟨cl', hcl', hjl⟩ := KC.lt c.2.sz hW hC hj2 hc6 hk
      rw [hcl] at hcl'; cases hcl'; omega)
    have hU : Upd 240 246 M N1 := a2.wide (by omega) (by omega)
    unfold g_K_closeUpAll_24
    rw [gI_e (by omega) c.pg.2.1, c.2.2.1, if_neg (nI_ge hxl (by omega)), gR_e (by omega) s2 s11, aR_e (by omega) s5 hc6 (by decide) (s15 x hc6).1, gR_e (by omega) c.pg.2.1 c.pg.2.2.2.2.1, aR_e (by omega) c.pg.2.2.1 hc6 (by decide) hxc, gI_e (by omega) hPa.2.1, hPi.2.1, a1, cV_e, nI_1]
    obtain ⟨N, n1, n2, n3⟩ := ih (x + 1) N1 ((hU.wide (by omega) (by omega) : Upd 236 249 M N1).ctk c) (fun d j hd6 hj => ⟨fun hxd => by rw [a2.xr (by omega)]; exact (h d j hd6 hj).1 (by omega), fun hdx => by
      by_cases e : d = x
      · subst e; exact a3 j hj
      · rw [a2.xr (by omega)]; exact (h d j hd6 hj).2 (by omega)⟩) (by omega) hd' n' (by omega)
    exact ⟨N, n1, hU.tr n2, n3⟩
theorem s_K_closeUpAll (c : CtK M pr) (hW : WF pr) (hC : Clo pr) (h : KpD M pr) : ∃ N, g_K_closeUpAll 236 2 M = rV N ∧ Upd 237 246 M N ∧ NumC N pr := by
  have h30 := c.2.2.2.1
  have h6 := c.2.1
  have hzp := c.pg.1
  obtain ⟨s1, s2, s3, s4, s5, s6, s7, s8, s9, s10, s11, s12, s13, s14, s15⟩ := id c.sh
  obtain ⟨N1, a1, a2, a3⟩ := s_closeUp (M := M) (a := 237) (L := 30) (s := pr.2.length) (P := kM pr) h30 (by decide) (by omega) s3 h.1 (fun j hj _ => bf_t kM_t fun hk => by have := hk.lt; omega)
  have c1 := (a2.row (by omega) (by omega)).ctk c
  obtain ⟨t1, t2, t3, t4, t5, t6, t7, t8, t9, t10, t11, t12, t13, t14, t15⟩ := id c1.sh
  have hzp1 := c1.pg.1
  obtain ⟨N2, b1, b2, b3⟩ := s_closeUp (M := N1) (a := 238) (L := 6) (s := pr.1.length) (P := kC pr) h6 (by decide) (by omega) t4 (fun j hj => by rw [a2.xr (by omega)]; exact h.2.1 j hj) (fun j hj hj6 => bf_t kC_t fun hk => by have := PC.lt c.2.sz hW hj6 hk; omega)
  have c2 := (b2.row (by omega) (by omega)).ctk c1
  obtain ⟨N, n1, n2, n3⟩ := s_K_close_l hW hC pr.1 0 N2 c2 (fun d j hd hj => ⟨fun _ => by rw [b2.xr (by omega), a2.xr (by omega)]; exact h.2.2 d j hd hj, fun hd0 => by omega⟩) (Nat.zero_le _) rfl FU (show _ < 5000 by omega)
  unfold g_K_closeUpAll
  rw [gR_e (by omega) s2 s9, gI_e (by omega) c.pg.2.1, c.2.2.2.2.1, a1, cV_e, gR_e (by omega) t2 t10, gI_e (by omega) c1.pg.2.1, c1.2.2.1, b1, cV_e]
  refine ⟨N, n1, ((a2.wide (by omega) (by omega)).tr (b2.wide (by omega) (by omega))).tr (n2.wide (by omega) (by omega)), fun m hm => ?_, fun d hd => ?_, n3⟩
  · rw [n2.2.2.2.2.2 237 (by omega), b2.xr (by omega)]; exact a3 m hm
  · rw [n2.2.2.2.2.2 238 (by omega)]; exact b3 d hd
end PCU
