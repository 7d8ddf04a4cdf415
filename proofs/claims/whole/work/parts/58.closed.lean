/-! the shaken program is well made and closed -/
def gB {α β : Type} (P : Nat → Bool) (f : Nat → α → β) : List α → Nat → List β
  | [], _ => []
  | a :: t, j => (if P j = true then [f j a] else []) ++ gB P f t (j + 1)
theorem gB_get {α β : Type} {P : Nat → Bool} {f : Nat → α → β} : ∀ {t : List α} {j c : Nat} {a : α}, t[c]? = some a → P (j + c) = true → (gB P f t j)[rk P (j + c) - rk P j]? = some (f (j + c) a)
  | [], _, _, _, h, _ => by cases h
  | b :: t, j, 0, a, h, hp => by
    have e : b = a := by simpa using h
    subst e
    unfold gB
    rw [if_pos (show P j = true from hp)]
    simp
  | b :: t, j, c + 1, a, h, hp => by
    have h' : t[c]? = some a := by simpa using h
    have ih := gB_get (P := P) (f := f) (t := t) (j := j + 1) (c := c) h' (by rw [show j + 1 + c = j + (c + 1) by omega]; exact hp)
    rw [show j + 1 + c = j + (c + 1) by omega] at ih
    have hs := rk_s P j
    have hm := rk_mono P (a := j + 1) (b := j + (c + 1)) (by omega)
    unfold gB
    by_cases hj : P j = true
    · rw [if_pos hj] at hs ⊢
      rw [show rk P (j + (c + 1)) - rk P j = (rk P (j + (c + 1)) - rk P (j + 1)) + 1 by omega]
      simpa using ih
    · rw [if_neg hj] at hs ⊢
      rw [show rk P (j + (c + 1)) - rk P j = rk P (j + (c + 1)) - rk P (j + 1) by omega]
      simpa using ih
theorem gB_mem {α β : Type} {P : Nat → Bool} {f : Nat → α → β} : ∀ {t : List α} {j : Nat} {x : β}, x ∈ gB P f t j → ∃ (c : Nat) (a : α), t[c]? = some a ∧ P (j + c) = true ∧ x = f (j + c) a
  | [], _, _, h => by cases h
  | b :: t, j, x, h => by
    unfold gB at h
    rcases List.mem_append.mp h with h | h
    · by_cases hj : P j = true
      · rw [if_pos hj, List.mem_singleton] at h
        exact ⟨0, b, rfl, hj, h⟩
      · rw [if_neg hj] at h; cases h
    · obtain ⟨c, a, h1, h2, h3⟩ := gB_mem h
      exact ⟨c + 1, a, by simpa using h1, by rw [show j + (c + 1) = j + 1 + c by omega]; exact h2, by rw [show j + (c + 1) = j + 1 + c by omega]; exact h3⟩
theorem bC_gB (pr : PR) (c : Nat) : ∀ (t : List CT) (j : Nat), bC pr c t j = gB (kQ pr c) (fun _ q => ncV pr c q) t j
  | [], _ => rfl
  | q :: t, j => by show (if _ then _ else _) ++ _ = (if _ then _ else _) ++ _; rw [bC_gB pr c t (j + 1)]
theorem bP_gB (pr : PR) : ∀ (t : List (List CT)) (j : Nat), bP pr t j = gB (kC pr) (fun c cl => bC pr c cl 0) t j
  | [], _ => rfl
  | q :: t, j => by show (if _ then _ else _) ++ _ = (if _ then _ else _) ++ _; rw [bP_gB pr t (j + 1)]
theorem bM_gB (pr : PR) : ∀ (t : List MB) (j : Nat), bM pr t j = gB (kM pr) (fun _ b => nbV pr b) t j
  | [], _ => rfl
  | q :: t, j => by show (if _ then _ else _) ++ _ = (if _ then _ else _) ++ _; rw [bM_gB pr t (j + 1)]
theorem fnd_spec {p : MB → Bool} : ∀ (t : List MB) (i : Nat), fnd p t i = -1 ∨ ∃ (c : Nat) (b : MB), t[c]? = some b ∧ p b = true ∧ fnd p t i = nI (i + c)
  | [], _ => Or.inl rfl
  | b :: t, i => by
    unfold fnd
    by_cases h : p b = true
    · rw [if_pos h]; exact Or.inr ⟨0, b, rfl, h, rfl⟩
    · rw [if_neg h]
      rcases fnd_spec t (i + 1) with e | ⟨c, b', h1, h2, h3⟩
      · exact Or.inl e
      · exact Or.inr ⟨c + 1, b', by simpa using h1, h2, by rw [h3, show i + 1 + c = i + (c + 1) by omega]⟩
theorem fnd_ne {p : MB → Bool} : ∀ (t : List MB) (i : Nat), i + t.length < 1000 → (∃ b ∈ t, p b = true) → ¬ fnd p t i = -1
  | [], _, _, ⟨b, hb, _⟩ => by cases hb
  | b :: t, i, hl, ⟨b', hb', hp⟩ => by
    simp only [List.length_cons] at hl
    unfold fnd
    by_cases h : p b = true
    · rw [if_pos h]
      exact fun e => nI_pos (show i < 2 ^ 31 by omega) (by rw [e]; decide)
    · rw [if_neg h]
      rcases List.mem_cons.mp hb' with rfl | hb'
      · exact absurd hp h
      · exact fnd_ne t (i + 1) (by omega) ⟨b', hb', hp⟩
section PCL
variable {pr : PR}
theorem meant_spec (h30 : pr.2.length ≤ 30) {cl : List CT} {x kind : Int32} {k : Nat} (hk : k < pr.2.length) (h : meantV pr cl x kind = nI k) : ∃ q b', lk cl x = some q ∧ q.1 = kind ∧ pr.2[k]? = some b' ∧ b'.1 = firstV cl q.2.1 ∧ isF b' = decide (kind = 3) ∧ nameV pr b' = firstV cl q.2.2 := by
  have hne : ¬ nI k = -1 := fun e => nI_pos (show k < 2 ^ 31 by omega) (by rw [e]; decide)
  unfold meantV at h
  split at h
  · rename_i q hq
    split at h
    · rename_i hkd
      unfold findV at h
      rcases fnd_spec (p := findP pr (firstV cl q.2.1) (firstV cl q.2.2) (decide (kind = 3))) pr.2 0 with e | ⟨c, b', h1, h2, h3⟩
      · rw [e] at h; exact absurd h.symm hne
      · rw [h3] at h
        have hcl : c < pr.2.length := (List.getElem?_eq_some_iff.mp h1).1
        have e : 0 + c = k := (nI_eq (by omega) (by omega)).mp h
        rw [show c = k by omega] at h1
        unfold findP at h2
        simp only [Bool.and_eq_true, decide_eq_true_eq, beq_iff_eq] at h2
        exact ⟨q, b', hq, hkd, h1, h2.1.1, h2.1.2, h2.2⟩
    · exact absurd h.symm hne
  · exact absurd h.symm hne
theorem ps_pool {c : Nat} {cl : List CT} (h : PC pr c) (hc : c < 6) (hcl : pr.1[c]? = some cl) : lk (psV pr).1 (num (kC pr) c) = some (bC pr c cl 0) ∧ (∃ k, k < (psV pr).1.length ∧ num (kC pr) c = nI k) := by
  have := gB_get (P := kC pr) (f := fun c cl => bC pr c cl 0) (j := 0) (c := c) hcl (by rw [Nat.zero_add]; exact kC_t.mpr h)
  rw [← bP_gB, Nat.zero_add, show rk (kC pr) 0 = 0 from rfl, Nat.sub_zero] at this
  have hn : num (kC pr) c = nI (rk (kC pr) c) := by unfold num; rw [if_pos (kC_t.mpr h)]
  have hrk := rk_le (kC pr) c
  exact ⟨by rw [hn, lk_nI (by omega)]; exact this, _, (List.getElem?_eq_some_iff.mp this).1, hn⟩
theorem ps_const {c j : Nat} {cl : List CT} {q : CT} (h : KC pr c j) (hj : j < 20) (hq : cl[j]? = some q) : lk (bC pr c cl 0) (num (kQ pr c) j) = some (ncV pr c q) := by
  have := gB_get (P := kQ pr c) (f := fun _ q => ncV pr c q) (j := 0) (c := j) hq (by rw [Nat.zero_add]; exact kQ_t.mpr h)
  rw [← bC_gB, Nat.zero_add, show rk (kQ pr c) 0 = 0 from rfl, Nat.sub_zero] at this
  have hrk := rk_le (kQ pr c) j
  rw [show num (kQ pr c) j = nI (rk (kQ pr c) j) by unfold num; rw [if_pos (kQ_t.mpr h)], lk_nI (by omega)]
  exact this
theorem ps_memb {m : Nat} {b : MB} (h : Kept pr m) (hb : pr.2[m]? = some b) : nbV pr b ∈ (psV pr).2 := by
  have := gB_get (P := kM pr) (f := fun _ b => nbV pr b) (j := 0) (c := m) hb (by rw [Nat.zero_add]; exact kM_t.mpr h)
  rw [← bM_gB] at this
  exact List.mem_of_getElem? this
theorem KC.cls (hz : Sz pr) (hW : WF pr) (hC : Clo pr) {c y k : Nat} {cl : List CT} {q : CT} (hc : c < 6) (hy : y < 20) (hcl : pr.1[c]? = some cl) (hq : cl[y]? = some q) (h2 : q.1 = 2) (ek : q.2.1 = nI k) (h : KC pr c y) : PC pr k := by
  obtain ⟨m, b, cl', hkm, hb, ec, hcl', hm⟩ := h
  have hbm := List.mem_of_getElem? hb
  have h6 := hz.1
  have e : cl' = cl := by
    rw [ec, lk_nI (by omega), hcl] at hcl'; cases hcl'; rfl
  subst e
  have hl := hz.2.2.1 cl' (lk_mem hcl')
  rcases hm with e | ⟨i, hi, hu, hm⟩
  · obtain ⟨⟨cl2, q2, g1, g2, g3⟩, -⟩ := hW.2 b hbm
    rw [hcl'] at g1; cases g1
    rw [e, lk_nI (by omega), hq] at g2; cases g2
    rw [h2] at g3; exact absurd g3 (by decide)
  · obtain ⟨p, q', ep, hp, hq', q0, q1⟩ := use_const hz.2.1 hl hcl' (hC b hbm i hi) hu
    rcases hm with e | ⟨hr, q2, hq2, e⟩
    · have : y = p := (nI_eq (by omega) (by omega)).mp (e.symm.trans ep)
      subst this
      rw [hq] at hq'; cases hq'
      by_cases e0 : i.1 = 0
      · have := q0 e0; rw [h2] at this; exact absurd this (by decide)
      · have := (q1 (hu.resolve_left e0)).1
        rw [h2] at this
        rcases refK_34 i with e | e <;> rw [e] at this <;> exact absurd this (by decide)
    · rw [ep, lk_nI (by omega), hq'] at hq2; cases hq2
      obtain ⟨qk, kk, hkl, em⟩ := q1 hr
      obtain ⟨j1, j2, l1, l2, ej1, ej2, -, r2, r2a, r2b⟩ := two_const hW (lk_mem hcl') hl (List.mem_of_getElem? hq') (by rw [qk]; exact refK_34 i)
      rcases e with e | e
      · have hy1 : y = j1 := (nI_eq (by omega) (by omega)).mp (e.symm.trans ej1)
        obtain ⟨q3, b', g1, g2, g3, g4, -⟩ := meant_spec hz.2.1 hkl em
        rw [ep, lk_nI (by omega), hq'] at g1; cases g1
        refine ⟨kk, b', hkm.step ⟨hkl, b, cl', i, hb, hcl', hi, hr, em⟩, g3, ?_⟩
        rw [g4, ej1, ← hy1]
        unfold firstV
        rw [lk_nI (by omega), hq]
        exact ek
      · have hy2 : y = j2 := (nI_eq (by omega) (by omega)).mp (e.symm.trans ej2)
        subst hy2
        rw [hq] at r2a; cases r2a
        rw [h2] at r2b; exact absurd r2b (by decide)
theorem nm_lt {n : Nat} (hn : n < 100) (h : uB pr n = true) : ∃ k, k < 100 ∧ nmV pr n = nI k := by
  unfold nmV
  by_cases he : eB pr n = true
  · rw [if_pos he]; exact ⟨n, hn, rfl⟩
  · rw [if_neg he, if_pos h]
    have h1 := nx_le (eB pr) (uB pr) (n := n) (by omega)
    have h2 := lf_le (E := eB pr) h1 hn (by simpa using he)
    exact ⟨_, by omega, rfl⟩
theorem psV_wf (hz : Sz pr) (hW : WF pr) (hC : Clo pr) : WF (psV pr) := by
  have h6 := hz.1
  refine ⟨fun cl' hcl' q' hq' => ?_, fun b' hb' => ?_⟩
  · have hm1 : cl' ∈ gB (kC pr) (fun c cl => bC pr c cl 0) pr.1 0 := by rw [← bP_gB]; exact hcl'
    obtain ⟨c, cl, hcl, hkc, rfl⟩ := gB_mem hm1
    rw [Nat.zero_add] at hkc hq' ⊢
    have hc : c < pr.1.length := (List.getElem?_eq_some_iff.mp hcl).1
    have hl := hz.2.2.1 cl (List.mem_of_getElem? hcl)
    have hm2 : q' ∈ gB (kQ pr c) (fun _ q => ncV pr c q) cl 0 := by rw [← bC_gB]; exact hq'
    obtain ⟨y, q, hq, hkq, rfl⟩ := gB_mem hm2
    rw [Nat.zero_add] at hkq
    have hy : y < cl.length := (List.getElem?_eq_some_iff.mp hq).1
    have hkk := kQ_t.mp hkq
    rcases hW.1 cl (List.mem_of_getElem? hcl) q (List.mem_of_getElem? hq) with e | ⟨e, k, hk', ek⟩ | ⟨e, k, hk', ek⟩ | ⟨e, -⟩
    · exact Or.inl e
    · refine Or.inr (Or.inl ⟨e, ?_⟩)
      obtain ⟨k', h1, h2⟩ := nm_lt hk' (uB_t.mpr ⟨c, y, cl, q, hcl, hq, hkk, e, ek⟩)
      refine ⟨k', h1, ?_⟩
      show nFirst pr c q = _
      unfold nFirst
      rw [if_pos e, ek, nI_clamp (by omega)]
      exact h2
    · refine Or.inr (Or.inr (Or.inl ⟨e, ?_⟩))
      have hpc := KC.cls hz hW hC (show c < 6 by omega) (show y < 20 by omega) hcl hq e ek hkk
      obtain ⟨-, k', h1, h2⟩ := ps_pool hpc (show k < 6 by omega) (List.getElem?_eq_getElem hk')
      refine ⟨k', h1, ?_⟩
      show nFirst pr c q = _
      unfold nFirst
      rw [if_neg (by rw [e]; decide), if_pos e, ek, nI_clamp (by omega)]
      exact h2
    · obtain ⟨j1, j2, l1, l2, ej1, ej2, ⟨r1, r1a, r1b⟩, r2, r2a, r2b⟩ := two_const hW (List.mem_of_getElem? hcl) hl (List.mem_of_getElem? hq) e
      have k1 := KC.two hz hW hC (show c < 6 by omega) (show y < 20 by omega) hcl hq e hkk (Or.inl ej1)
      have k2 := KC.two hz hW hC (show c < 6 by omega) (show y < 20 by omega) hcl hq e hkk (Or.inr ej2)
      refine Or.inr (Or.inr (Or.inr ⟨e, ⟨ncV pr c r1, ?_, r1b⟩, ncV pr c r2, ?_, r2b⟩))
      · have e1 : nFirst pr c q = num (kQ pr c) q.2.1.toNatClampNeg := by
          unfold nFirst
          rw [if_neg (by rcases e with e | e <;> rw [e] <;> decide), if_neg (by rcases e with e | e <;> rw [e] <;> decide), if_pos e]
        have e3 := ps_const k1 (show j1 < 20 by omega) r1a
        rw [show j1 = q.2.1.toNatClampNeg by rw [ej1, nI_clamp (by omega)], ← e1] at e3
        exact e3
      · have e2 : (ncV pr c q).2.2 = num (kQ pr c) q.2.2.toNatClampNeg := by
          unfold ncV
          simp only [if_pos e]
        have e3 := ps_const k2 (show j2 < 20 by omega) r2a
        rw [show j2 = q.2.2.toNatClampNeg by rw [ej2, nI_clamp (by omega)], ← e2] at e3
        exact e3
  · have hm1 : b' ∈ gB (kM pr) (fun _ b => nbV pr b) pr.2 0 := by rw [← bM_gB]; exact hb'
    obtain ⟨m, b, hb, hkm, rfl⟩ := gB_mem hm1
    rw [Nat.zero_add] at hkm
    have hk := kM_t.mp hkm
    have hok := hW.2 b (List.mem_of_getElem? hb)
    obtain ⟨d, j, cl, d6, j20, ed, ej, hcl, hdl, hjl, hl20⟩ := okM.at hz hok
    obtain ⟨⟨cl2, q2, g1, g2, g3⟩, o2, o3, o4, o5⟩ := hok
    rw [hcl] at g1; cases g1
    rw [ej, lk_nI (by omega)] at g2
    have hpc : PC pr d := ⟨m, b, hk, hb, ed⟩
    have hkc : KC pr d j := ⟨m, b, cl, hk, hb, ed, hcl, Or.inl ej⟩
    refine ⟨⟨bC pr d cl 0, ncV pr d q2, ?_, ?_, g3⟩, o2, o3, fun e => ⟨(o4 e).1, ?_⟩, fun i hi => ?_⟩
    · show lk _ (num (kC pr) b.1.toNatClampNeg) = _
      rw [ed, nI_clamp (by omega)]
      exact (ps_pool hpc d6 hdl).1
    · show lk _ (num (kQ pr b.1.toNatClampNeg) b.2.1.toNatClampNeg) = _
      rw [ed, ej, nI_clamp (by omega), nI_clamp (by omega)]
      exact ps_const hkc j20 g2
    · show b.2.2.2.2.map _ = []
      rw [(o4 e).2]; rfl
    · obtain ⟨i0, hi0, rfl⟩ := List.mem_map.mp (show i ∈ b.2.2.2.2.map (niV pr b.1.toNatClampNeg) from hi)
      exact o5 i0 hi0
end PCL
