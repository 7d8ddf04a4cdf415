/-! the class's machine: steps, runs -/
def SW (pr : PR) (fs : List FR) : Prop := ∀ fr ∈ fs, fr.2.1 ≤ 20 ∧ fr.1 < pr.2.length
def Clo (pr : PR) : Prop := ∀ b ∈ pr.2, ∀ i ∈ b.2.2.2.2, soundV pr b i = true
def Sz (pr : PR) : Prop := pr.1.length ≤ 6 ∧ pr.2.length ≤ 30 ∧ (∀ cl ∈ pr.1, cl.length ≤ 20) ∧ ∀ b ∈ pr.2, b.2.2.2.2.length ≤ 20
theorem RepC.sz {M : XM} {P : Nat} {pr : PR} (h : RepC M P pr) : Sz pr := by
  refine ⟨h.1, h.2.2.1, fun cl hc => ?_, fun b hb => ?_⟩
  · obtain ⟨i, hi⟩ := List.getElem?_of_mem hc
    exact (h.2.2.2.2.1 i cl hi).1
  · obtain ⟨i, hi⟩ := List.getElem?_of_mem hb
    exact (h.2.2.2.2.2 i b hi).2.2.2.2.2.1
theorem in_cases {x : Int32} : (∃ w : Nat, w < 13 ∧ x = nI w) → (x = 0 ∨ x = 1 ∨ x = 2 ∨ x = 3) ∨ (x = 5 ∨ x = 6 ∨ x = 7 ∨ x = 8) ∨ (x = 4 ∨ x = 9 ∨ x = 10 ∨ x = 11 ∨ x = 12) := by
  rintro ⟨w, hw, rfl⟩
  have : ∀ w : Fin 13, (nI w.1 = 0 ∨ nI w.1 = 1 ∨ nI w.1 = 2 ∨ nI w.1 = 3) ∨ (nI w.1 = 5 ∨ nI w.1 = 6 ∨ nI w.1 = 7 ∨ nI w.1 = 8) ∨ (nI w.1 = 4 ∨ nI w.1 = 9 ∨ nI w.1 = 10 ∨ nI w.1 = 11 ∨ nI w.1 = 12) := by decide
  exact this ⟨w, hw⟩
theorem s_uses {M : XM} (x : Int32) : g_S_usesConstant x M = rB (decide (x = 0 ∨ x = 1 ∨ x = 2 ∨ x = 3)) M := by
  unfold g_S_usesConstant
  by_cases h0 : x = 0
  · simp [h0, z01, bI]
  by_cases h1 : x = 1
  · simp [h1, z01, bI]
  by_cases h2 : x = 2
  · simp [h2, z01, bI]
  by_cases h3 : x = 3
  · simp [h3, z01, bI]
  · simp [h0, h1, h2, h3, z01, bI]
theorem inst_calc {pr : PR} {cl : List CT} {vs : Nat → Int32} {r : Int32} {t : List FR} {fr : FR} {i : IN} (h : i.1 = 5 ∨ i.1 = 6 ∨ i.1 = 7 ∨ i.1 = 8) : instV pr cl vs r t fr i = calcV vs r t fr i.1 := by
  unfold instV
  rw [if_neg (by rcases h with e | e | e | e <;> rw [e] <;> decide), if_neg (by rcases h with e | e | e | e <;> rw [e] <;> decide), if_neg (by rcases h with e | e | e | e <;> rw [e] <;> decide), if_neg (by rcases h with e | e | e | e <;> rw [e] <;> decide), if_neg (by rcases h with e | e | e | e <;> rw [e] <;> decide), if_neg (by rcases h with e | e | e | e <;> rw [e] <;> decide), if_neg (by rcases h with e | e | e | e <;> rw [e] <;> decide), if_neg (by rcases h with e | e | e | e <;> rw [e] <;> decide), if_neg (by rcases h with e | e | e | e <;> rw [e] <;> decide)]
theorem ownerCl {pr : PR} {b : MB} (h : okM pr b) : ∃ cl, lk pr.1 b.1 = some cl := by
  obtain ⟨⟨cl, q, h1, -⟩, -⟩ := h
  exact ⟨cl, h1⟩
theorem sndOf {pr : PR} {b : MB} {cl : List CT} {i : IN} (hz : Sz pr) (hW : WF pr) (hC : Clo pr) (hb : b ∈ pr.2) (hcl : lk pr.1 b.1 = some cl) (hi : i ∈ b.2.2.2.2) : Snd pr cl b i :=
  snd_of hz.2.1 (hz.2.2.2 b hb) (hz.2.2.1 cl (lk_mem hcl)) hcl (hW.2 b hb) hi (hC b hb i hi)
section PEX
variable {M : XM} {P : Nat} {pr : PR} {vs : Nat → Int32} {r : Int32} {t : List FR} {fr : FR}
theorem s_E_step (c : Ctx M P pr) (hW : WF pr) (hC : Clo pr) (hS : SW pr (fr :: t)) (h : StC M P (vs, fr :: t, r)) : OkS M P (g_E_step 249 P (252 + 2 * t.length) M) (stepV pr (vs, fr :: t, r)) := by
  obtain ⟨m, n, x, y, st⟩ := fr
  have ht := h.stk
  have hfr := fr_at c ht
  obtain ⟨hn20, hmlt⟩ := hS _ (List.mem_cons_self ..)
  simp only at hn20 hmlt
  have hb := List.getElem?_eq_getElem hmlt
  generalize pr.2[m] = b at hb
  have hbm : b ∈ pr.2 := List.mem_of_getElem? hb
  obtain ⟨hm30, hxr, hMa, e1, e2, e3, e4, e5, e6, e7⟩ := c.rep.memb c.at' hb
  have hza := hMa.1
  obtain ⟨f1, f2, f3, f4, f5, f6, f7⟩ := h.2.2.2.1.1
  simp only at f1 f2
  obtain ⟨cl, hcl⟩ := ownerCl (hW.2 b hbm)
  unfold g_E_step stepV
  simp only [hb]
  rw [gI_e hfr.1 hfr.2, f2, gR_e hfr.1 hfr.2 f1, gI_e (by omega) hMa.2.1, e5]
  by_cases hn : n < b.2.2.2.2.length
  · have hi := List.getElem?_eq_getElem hn
    generalize b.2.2.2.2[n] = i at hi
    have him : i ∈ b.2.2.2.2 := List.mem_of_getElem? hi
    have hs := sndOf c.rep.sz hW hC hbm hcl him
    have h' := h.goto (n + 1)
    have hU : UpdE M (xpi M (252 + 2 * t.length) 3 (nI (n + 1))) := UpdE.rf.pi (by omega) (by omega)
    have c' := hU.ctx c
    rw [hi, if_pos (nI_lt hn (by omega)), gR_e hfr.1 hfr.2 f1, gR_e (by omega) hMa.2.1 hMa.2.2.2.2.1, gI_e hfr.1 hfr.2, f2, aI_e (by omega) hMa.2.2.1 (by omega) (by decide), (e7 n i hi).1, gR_e hfr.1 hfr.2 f1, gR_e (by omega) hMa.2.1 hMa.2.2.2.2.2, gI_e hfr.1 hfr.2, f2, aI_e (by omega) hMa.2.2.2.1 (by omega) (by decide), (e7 n i hi).2, gI_e hfr.1 hfr.2, f2, nI_1, uI_e hfr.1 hfr.2, s_uses, cI_e, hcl]
    simp only [Option.getD_some]
    refine OkS.tr hU ?_
    rcases in_cases hs.2.2.2.2 with hu | hu | hu
    · rw [decide_eq_true hu, if_neg (by decide), rv26 c']
      exact OkS.cV (s_E_useConstant c' hW h' hb hcl hs hu)
    · rw [decide_eq_false (by rcases hu with e | e | e | e <;> rw [e] <;> decide), if_pos (show bI false = 0 from rfl), if_neg (by rcases hu with e | e | e | e <;> rw [e] <;> decide), if_neg (by rcases hu with e | e | e | e <;> rw [e] <;> decide), inst_calc hu]
      exact OkS.cV (s_E_calculate c' h' hu)
    · rw [decide_eq_false (by rcases hu with e | e | e | e | e <;> rw [e] <;> decide), if_pos (show bI false = 0 from rfl)]
      by_cases h5 : i.1 < 5
      · rw [if_pos h5, rv26 c']
        exact OkS.cV (s_E_steer c' h' e6 hs hu)
      · rw [if_neg h5, if_pos (by rcases hu with e | e | e | e | e; (exact absurd (by rw [e]; decide) h5); all_goals (rw [e]; decide)), rv26 c']
        exact OkS.cV (s_E_steer c' h' e6 hs hu)
  · rw [List.getElem?_eq_none (by omega), if_neg (show ¬ nI n < nI b.2.2.2.2.length from nI_nlt (by omega) (by omega))]
    exact OkS.x0 c
/-! the frames stay well made -/
def SRw (pr : PR) (r : SR) : Prop := match r with
  | .inl s => SW pr s.2.1
  | .inr _ => True
theorem SW.tail (h : SW pr (fr :: t)) : SW pr t := fun f hf => h f (List.mem_cons_of_mem _ hf)
theorem SW.put (h : SW pr t) (h1 : fr.2.1 ≤ 20) (h2 : fr.1 < pr.2.length) : SW pr (fr :: t) := by
  intro f hf
  rcases List.mem_cons.mp hf with rfl | hf
  · exact ⟨h1, h2⟩
  · exact h f hf
theorem SW.top (h : SW pr (fr :: t)) (st : List Int32) : SW pr ((fr.1, fr.2.1, fr.2.2.1, fr.2.2.2.1, st) :: t) := SW.put (fr := (fr.1, fr.2.1, fr.2.2.1, fr.2.2.2.1, st)) h.tail (h _ (List.mem_cons_self ..)).1 (h _ (List.mem_cons_self ..)).2
theorem SRw.push (h : SW pr (fr :: t)) (v : Int32) : SRw pr (pushV vs r t fr v) := by
  unfold pushV
  split
  · exact SW.put h.tail (h _ (List.mem_cons_self ..)).1 (h _ (List.mem_cons_self ..)).2
  · trivial
theorem SRw.pop {st : List Int32} {k : Int32 → List Int32 → SR} (h : ∀ v st', SRw pr (k v st')) : SRw pr (popV st k) := by
  unfold popV
  split
  · trivial
  · exact h _ _
theorem SRw.begin {fs : List FR} (h : SW pr fs) {k : Nat} (hk : k < pr.2.length) (x y : Int32) : SRw pr (beginV vs r fs k x y) := by
  unfold beginV
  split
  · exact SW.put h (Nat.zero_le _) hk
  · trivial
theorem inst_sw {b : MB} {cl : List CT} {i : IN} (hz : Sz pr) (hb : b ∈ pr.2) (hs : Snd pr cl b i) (h : SW pr (fr :: t)) : SRw pr (instV pr cl vs r t fr i) := by
  have h20 := hz.2.2.2 b hb
  have h30 := hz.2.1
  have hf := h _ (List.mem_cons_self ..)
  unfold instV
  split
  · exact SRw.push h _
  split
  · exact SRw.push h _
  split
  · exact SRw.pop fun v st' => SW.put h.tail hf.1 hf.2
  split
  · rename_i e
    obtain ⟨k, hk, ek⟩ := hs.2.2.1 e
    rw [ek, nI_clamp (by omega)]
    unfold invV
    split
    · trivial
    · split
      · exact SRw.pop fun v st' => SRw.pop fun v st' => SRw.begin (h.top _) hk _ _
      · split
        · exact SRw.pop fun v st' => SRw.begin (h.top _) hk _ _
        · exact SRw.begin h hk _ _
  split
  · exact SRw.push h _
  split
  · rename_i e
    obtain ⟨j, hj, ej⟩ := hs.2.2.2.1 (Or.inl e)
    refine SRw.pop fun v st' => SW.put h.tail ?_ hf.2
    rw [ej, nI_clamp (by omega)]
    simp only
    split
    · omega
    · exact hf.1
  split
  · rename_i e
    obtain ⟨j, hj, ej⟩ := hs.2.2.2.1 (Or.inr e)
    refine SW.put h.tail ?_ hf.2
    rw [ej, nI_clamp (by omega)]
    simp only
    omega
  split
  · refine SRw.pop fun v st' => ?_
    unfold endV
    split
    · exact fun f hf => by cases hf
    · exact SRw.push h.tail _
  split
  · exact SRw.pop fun v st' => trivial
  · unfold calcV
    refine SRw.pop fun v st' => SRw.pop fun v st' => ?_
    split
    · trivial
    · exact SRw.push (h.top _) _
theorem step_sw {s : ST} (hz : Sz pr) (hW : WF pr) (hC : Clo pr) (h : SW pr s.2.1) : SRw pr (stepV pr s) := by
  obtain ⟨vs, fs, r⟩ := s
  unfold stepV
  cases fs with
  | nil => trivial
  | cons fr t =>
    simp only
    split
    · trivial
    · rename_i b hb
      have hbm : b ∈ pr.2 := List.mem_of_getElem? hb
      split
      · trivial
      · rename_i i hi
        obtain ⟨cl, hcl⟩ := ownerCl (hW.2 b hbm)
        rw [hcl]
        have hn : fr.2.1 < b.2.2.2.2.length := (List.getElem?_eq_some_iff.mp hi).1
        have h20 := hz.2.2.2 b hbm
        exact inst_sw hz hbm (sndOf hz hW hC hbm hcl (List.mem_of_getElem? hi)) (SW.put h.tail (by simp only; omega) (h _ (List.mem_cons_self ..)).2)
/-! runs -/
def OkX (M : XM) (g : XP) (r : AR) : Prop := match r with
  | .inl v => ∃ N, g = rI v N ∧ UpdE M N
  | .inr e => ∃ N, g = some (.inr (xz M), xnw N (40 + e) 0 6) ∧ UpdE M N
theorem OkX.tr {N : XM} {g : XP} {q : AR} (h : UpdE M N) (k : OkX N g q) : OkX M g q := by
  unfold OkX at *
  split at k
  · obtain ⟨K, k1, k2⟩ := k
    exact ⟨K, k1, h.tr k2⟩
  · obtain ⟨K, k1, k2⟩ := k
    exact ⟨K, by rw [k1, h.1], h.tr k2⟩
theorem s_E_loop (hW : WF pr) (hC : Clo pr) : ∀ (k : Nat) (s : ST) (M : XM) (i : Nat), i + k = 400 → Ctx M P pr → StC M P s → SW pr s.2.1 → 0 < s.2.1.length → ∀ n, k < n → OkX M (g_E_execute_29 n 249 P (nI i) M) (runV pr k s) := by
  intro k
  induction k with
  | zero =>
    intro s M i hi c h hS h0 n hn
    obtain ⟨n', rfl⟩ : ∃ n', n = n' + 1 := ⟨n - 1, by omega⟩
    unfold g_E_execute_29 runV
    rw [if_pos (show (400 : Int32) ≤ nI i from nI_le (a := 400) (by omega) (by omega))]
    exact ⟨M, tX_e c.z c.u, UpdE.rf⟩
  | succ k ih =>
    intro s M i hi c h hS h0 n hn
    obtain ⟨n', rfl⟩ : ∃ n', n = n' + 1 := ⟨n - 1, by omega⟩
    obtain ⟨vs, fs, r⟩ := s
    cases fs with
    | nil => simp at h0
    | cons fr t =>
      have ht := h.stk
      obtain ⟨l0, l1, l2, l3, l4, l5, l6, p1, p2, hS', hE, hR⟩ := id c.lay
      have hE1 := hE.1
      obtain ⟨e1, e2, e3, e4⟩ := hE.2.2.2.2.2.2 t.length ht
      unfold g_E_execute_29 runV
      rw [if_neg (show ¬ (400 : Int32) ≤ nI i from nI_ge (b := 400) (by omega) (by omega)), gR_e (by omega) hE.2.1 hE.2.2.2.2.2.1, gI_e (by omega) hE.2.1, h.2.2.1]
      simp only [List.length_cons]
      rw [nI_pred, aR_e (by omega) hE.2.2.2.1 ht (by decide) e1, rv26 c]
      have hst := s_E_step c hW hC hS h
      have hsw := step_sw (s := (vs, fr :: t, r)) c.rep.sz hW hC hS
      cases hr : stepV pr (vs, fr :: t, r) with
      | inr e =>
        rw [hr] at hst
        obtain ⟨N, n1, n2⟩ := hst
        rw [n1, cV_x]
        exact ⟨N, rfl, n2⟩
      | inl s' =>
        rw [hr] at hst hsw
        obtain ⟨N, n1, n2, n3⟩ := hst
        have c' := n2.ctx c
        obtain ⟨-, -, -, -, -, -, -, -, -, -, hE', -⟩ := id c'.lay
        have hE1' := hE'.1
        have h8 := n3.2.1
        rw [n1, cV_e, gI_e (by omega) hE'.2.1, n3.2.2.1]
        simp only
        by_cases h0' : s'.2.1.length = 0
        · rw [if_neg (fun h => h (by rw [h0']; rfl)), if_pos h0', gI_e (by omega) hE'.2.1, n3.2.2.2.2 h0']
          exact ⟨N, rfl, n2⟩
        · rw [if_pos (show ¬ nI s'.2.1.length = 0 from fun h => h0' ((nI_eq (b := 0) (by omega) (by omega)).mp h)), if_neg h0', nI_1]
          exact OkX.tr n2 (ih s' N (i + 1) (by omega) c' n3 hsw (by omega) n' (by omega))
/-! filling a row -/
theorem s_fill_l {a len : Nat} (v : Int32) (hl : len < 1000) : ∀ (k : Nat) (M : XM) (i : Nat), a < xz M → xt M a = (0, len) → i + k = len → ∀ n, k < n → ∃ N, g_A_fill_5 n a v (nI i) (nI len) M = rV N ∧ Upd a (a + 1) M N ∧ ∀ j, xi N a j = if i ≤ j ∧ j < len then v else xi M a j := by
  intro k
  induction k with
  | zero =>
    intro M i h1 h2 hi n hn
    obtain ⟨n', rfl⟩ : ∃ n', n = n' + 1 := ⟨n - 1, by omega⟩
    unfold g_A_fill_5
    rw [if_pos (nI_le (by omega) (by omega))]
    exact ⟨M, rfl, Upd.rf, fun j => by rw [if_neg (by omega)]⟩
  | succ k ih =>
    intro M i h1 h2 hi n hn
    obtain ⟨n', rfl⟩ : ∃ n', n = n' + 1 := ⟨n - 1, by omega⟩
    unfold g_A_fill_5
    rw [if_neg (nI_ge (by omega) (by omega)), sI_e h1 h2 (by omega) (by omega), nI_1]
    obtain ⟨N, n1, n2, n3⟩ := ih (xpi M a i v) (i + 1) h1 h2 (by omega) n' (by omega)
    refine ⟨N, n1, (Upd.rf.pi (by omega) (by omega)).tr n2, fun j => ?_⟩
    rw [n3]
    by_cases hj : i + 1 ≤ j ∧ j < len
    · rw [if_pos hj, if_pos (by omega)]
    · rw [if_neg hj]
      by_cases hji : j = i
      · subst hji; rw [xi_eq, if_pos (by omega)]
      · rw [xi_no (by omega), if_neg (by omega)]
theorem s_fill {a len : Nat} (v : Int32) (hl : len < 1000) (h1 : a < xz M) (h2 : xt M a = (0, len)) : ∃ N, g_A_fill a v M = rV N ∧ Upd a (a + 1) M N ∧ ∀ j, j < len → xi N a j = v := by
  unfold g_A_fill
  rw [aL_e h1 h2 (by decide)]
  obtain ⟨N, n1, n2, n3⟩ := s_fill_l v hl len M 0 h1 h2 (by omega) FU (show len < 5000 by omega)
  exact ⟨N, n1, n2, fun j hj => by rw [n3, if_pos (by omega)]⟩
theorem Upd.toE {lo hi : Nat} {N : XM} (h : Upd lo hi M N) (h1 : 249 ≤ lo) (h2 : hi ≤ 268) : UpdE M N :=
  ⟨h.1, h.2.1, h.2.2.1, h.2.2.2.2.1, fun a j _ => by rw [h.2.2.2.1], fun a ha => h.2.2.2.2.2 a (by omega)⟩
def execV (pr : PR) (m : Nat) (x y : Int32) : AR := runV pr 400 (fun _ => 0, [(m, 0, x, y, [])], 0)
theorem s_E_execute (c : Ctx M P pr) (hW : WF pr) (hC : Clo pr) {m : Nat} (hm : m < pr.2.length) (x y : Int32) : OkX M (g_E_execute 249 P (nI m) x y M) (execV pr m x y) := by
  obtain ⟨l0, l1, l2, l3, l4, l5, l6, p1, p2, hS', hE, hR⟩ := id c.lay
  have hE1 := hE.1
  unfold g_E_execute execV
  obtain ⟨N, n1, n2, n3⟩ := s_fill (M := M) (a := 250) 0 (by decide) (by omega) hE.2.2.1
  have hU := n2.toE (by decide) (by decide)
  have hU' : UpdE M (xpi N 249 2 0) := hU.pi (by decide) (by decide)
  have c1 := hU.ctx c
  have c2 := hU'.ctx c
  obtain ⟨-, -, -, -, -, -, -, -, -, -, hE', -⟩ := id c1.lay
  obtain ⟨-, -, -, -, -, -, -, -, -, -, hE'', -⟩ := id c2.lay
  have hE1' := hE'.1
  have hE1'' := hE''.1
  obtain ⟨hm30, hxr, hMa, hMi⟩ := c2.rep.memb c2.at' (List.getElem?_eq_getElem hm)
  have hP := c2.at'.1
  rw [gR_e (by omega) hE.2.1 hE.2.2.2.2.1, n1, cV_e, uI_e (by omega) hE'.2.1, gR_e (by omega) c2.at'.2.1 c2.at'.2.2.2.2.2.1, aR_e (by omega) c2.at'.2.2.2.1 hm30 (by decide) hxr, rv26 c2]
  have hs0 : StC (xpi N 249 2 0) P (fun _ => 0, [], xi (xpi N 249 2 0) 249 3) := ⟨fun k hk => by rw [xi_ne1 (by decide)]; exact n3 k hk, Nat.zero_le _, xi_eq _ _ _ _, trivial, fun _ => rfl⟩
  have hb := s_E_begin c2 hs0 m x y
  unfold beginV at hb
  rw [if_pos (by decide)] at hb
  obtain ⟨K, k1, k2, k3⟩ := hb
  rw [k1, cV_e]
  refine OkX.tr hU' (OkX.tr k2 (s_E_loop hW hC 400 (fun _ => 0, [(m, 0, x, y, [])], 0) K 0 (by decide) (k2.ctx c2) ⟨k3.1, k3.2.1, k3.2.2.1, k3.2.2.2.1, fun e => by simp at e⟩ (SW.put (fun f hf => by cases hf) (Nat.zero_le _) hm) (by simp) FU (show 400 < 5000 by decide)))
end PEX
