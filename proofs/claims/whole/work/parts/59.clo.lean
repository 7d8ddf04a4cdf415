/-! the shaken program is closed -/
section PSC
variable {pr : PR}
theorem nF_1 {c : Nat} {q : CT} (h : q.1 = 1) : nFirst pr c q = nmV pr q.2.1.toNatClampNeg := by unfold nFirst; rw [if_pos h]
theorem nF_2 {c : Nat} {q : CT} (h : q.1 = 2) : nFirst pr c q = num (kC pr) q.2.1.toNatClampNeg := by unfold nFirst; rw [if_neg (by rw [h]; decide), if_pos h]
theorem nF_34 {c : Nat} {q : CT} (h : q.1 = 3 ∨ q.1 = 4) : nFirst pr c q = num (kQ pr c) q.2.1.toNatClampNeg := by
  unfold nFirst
  rw [if_neg (by rcases h with e | e <;> rw [e] <;> decide), if_neg (by rcases h with e | e <;> rw [e] <;> decide), if_pos h]
theorem nS_34 {c : Nat} {q : CT} (h : q.1 = 3 ∨ q.1 = 4) : (ncV pr c q).2.2 = num (kQ pr c) q.2.2.toNatClampNeg := by
  unfold ncV
  simp only [if_pos h]
theorem firstV_of {cl : List CT} {x : Int32} {q : CT} (h : lk cl x = some q) : firstV cl x = q.2.1 := by unfold firstV; rw [h]
theorem ps_meant (hz : Sz pr) (hW : WF pr) (hC : Clo pr) (hl : (psV pr).2.length ≤ 30) {m d p k : Nat} {b : MB} {cl : List CT} {i : IN} {q : CT} (hk : Kept pr m) (hb : pr.2[m]? = some b) (hcl : lk pr.1 b.1 = some cl) (ed : b.1 = nI d) (d6 : d < 6) (hdl : pr.1[d]? = some cl) (hi : i ∈ b.2.2.2.2) (hr : isRef i) (ep : i.2 = nI p) (hp : p < cl.length) (hq : cl[p]? = some q) (qk : q.1 = refK i) (hkl : k < pr.2.length) (em : meantV pr cl i.2 (refK i) = nI k) :
    ¬ meantV (psV pr) (bC pr d cl 0) (num (kQ pr d) p) (refK i) = -1 := by
  have hl20 := hz.2.2.1 cl (lk_mem hcl)
  have q34 : q.1 = 3 ∨ q.1 = 4 := by rw [qk]; exact refK_34 i
  have hkc : KC pr d p := ⟨m, b, cl, hk, hb, ed, hcl, Or.inr ⟨i, hi, Or.inr hr, Or.inl ep⟩⟩
  obtain ⟨j1, j2, l1, l2, ej1, ej2, ⟨r1, r1a, r1b⟩, r2, r2a, r2b⟩ := two_const hW (lk_mem hcl) hl20 (List.mem_of_getElem? hq) q34
  have k1 := KC.two hz hW hC d6 (show p < 20 by omega) hdl hq q34 hkc (Or.inl ej1)
  have k2 := KC.two hz hW hC d6 (show p < 20 by omega) hdl hq q34 hkc (Or.inr ej2)
  obtain ⟨q3, bk, g1, g2, g3, g4, g5, g6⟩ := meant_spec hz.2.1 hkl em
  have hq3 : q3 = q := by
    rw [ep, lk_nI (by omega), hq] at g1; cases g1; rfl
  subst hq3
  have hkk : Kept pr k := hk.step ⟨hkl, b, cl, i, hb, hcl, hi, hr, em⟩
  rw [ej1, firstV_of (show lk cl (nI j1) = some r1 by rw [lk_nI (by omega)]; exact r1a)] at g4
  rw [ej2, firstV_of (show lk cl (nI j2) = some r2 by rw [lk_nI (by omega)]; exact r2a)] at g6
  have hokk := hW.2 bk (List.mem_of_getElem? g3)
  obtain ⟨c', j', cl', c6, j20, ec', ej', hcl', hc1, hj1, hl20'⟩ := okM.at hz hokk
  obtain ⟨⟨cl2, qn, n1, n2, n3⟩, -⟩ := hokk
  rw [hcl'] at n1; cases n1
  have hnm : nameV pr bk = qn.2.1 := by
    unfold nameV
    rw [hcl']
    exact firstV_of n2
  have n2' := n2
  rw [ej', lk_nI (by omega)] at n2'
  have hpc' : PC pr c' := ⟨k, bk, hkk, g3, ec'⟩
  have hkc' : KC pr c' j' := ⟨k, bk, cl', hkk, g3, ec', hcl', Or.inl ej'⟩
  have hnew : nameV (psV pr) (nbV pr bk) = nmV pr qn.2.1.toNatClampNeg := by
    unfold nameV
    have e1 : (nbV pr bk).1 = num (kC pr) c' := by
      show num (kC pr) bk.1.toNatClampNeg = _
      rw [ec', nI_clamp (by omega)]
    have e2 : (nbV pr bk).2.1 = num (kQ pr c') j' := by
      show num (kQ pr bk.1.toNatClampNeg) bk.2.1.toNatClampNeg = _
      rw [ec', ej', nI_clamp (by omega), nI_clamp (by omega)]
    rw [e1, (ps_pool hpc' c6 hc1).1]
    simp only
    rw [e2, firstV_of (ps_const hkc' j20 n2'), ← nF_1 (c := c') n3]
    rfl
  have hf1 : firstV (bC pr d cl 0) (ncV pr d q3).2.1 = num (kC pr) r1.2.1.toNatClampNeg := by
    have e1 : (ncV pr d q3).2.1 = num (kQ pr d) j1 := by
      show nFirst pr d q3 = _
      rw [nF_34 q34, ej1, nI_clamp (by omega)]
    rw [e1, firstV_of (ps_const k1 (show j1 < 20 by omega) r1a), ← nF_2 (c := d) r1b]
    rfl
  have hf2 : firstV (bC pr d cl 0) (ncV pr d q3).2.2 = nmV pr r2.2.1.toNatClampNeg := by
    rw [nS_34 q34, ej2, nI_clamp (by omega), firstV_of (ps_const k2 (show j2 < 20 by omega) r2a), ← nF_1 (c := d) r2b]
    rfl
  unfold meantV
  rw [ps_const hkc (show p < 20 by omega) hq]
  simp only
  rw [if_pos (show (ncV pr d q3).1 = refK i from qk), hf1, hf2]
  unfold findV
  refine fnd_ne (psV pr).2 0 (by omega) ⟨nbV pr bk, ps_memb hkk g3, ?_⟩
  unfold findP
  have t1 : (nbV pr bk).1 = num (kC pr) r1.2.1.toNatClampNeg := by
    show num (kC pr) bk.1.toNatClampNeg = _
    rw [g4]
  have t2 : isF (nbV pr bk) = decide (refK i = 3) := g5
  have t3 : nameV (psV pr) (nbV pr bk) = nmV pr r2.2.1.toNatClampNeg := by
    rw [hnew, ← hnm, g6]
  rw [t2, decide_eq_true t1, decide_eq_true t3]
  simp
theorem psV_clo (hz : Sz pr) (hW : WF pr) (hC : Clo pr) (hl : (psV pr).2.length ≤ 30) : Clo (psV pr) := by
  intro b' hb' i' hi'
  have hm1 : b' ∈ gB (kM pr) (fun _ b => nbV pr b) pr.2 0 := by rw [← bM_gB]; exact hb'
  obtain ⟨m, b, hb, hkm, rfl⟩ := gB_mem hm1
  rw [Nat.zero_add] at hkm
  have hk := kM_t.mp hkm
  have hbm := List.mem_of_getElem? hb
  have hok := hW.2 b hbm
  obtain ⟨d, j, cl, d6, j20, ed, ej, hcl, hdl, hjl, hl20⟩ := okM.at hz hok
  obtain ⟨i, hi, rfl⟩ := List.mem_map.mp (show i' ∈ b.2.2.2.2.map (niV pr b.1.toNatClampNeg) from hi')
  have hd : b.1.toNatClampNeg = d := by rw [ed, nI_clamp (by omega)]
  have hs := hC b hbm i hi
  have hpc : PC pr d := ⟨m, b, hk, hb, ed⟩
  have hlk : lk (psV pr).1 (nbV pr b).1 = some (bC pr d cl 0) := by
    have : (nbV pr b).1 = num (kC pr) d := by show num (kC pr) b.1.toNatClampNeg = _; rw [hd]
    rw [this]; exact (ps_pool hpc d6 hdl).1
  show soundV (psV pr) (nbV pr b) (niV pr b.1.toNatClampNeg i) = true
  rw [hd]
  have hi1 : (niV pr d i).1 = i.1 := rfl
  unfold soundV
  rw [hlk]
  simp only [Option.getD_some]
  rw [hi1]
  by_cases hu : isUse i
  · obtain ⟨p, q, ep, hp, hq, q0, q1⟩ := use_const hz.2.1 hl20 hcl hs hu
    have hi2 : (niV pr d i).2 = num (kQ pr d) p := by
      show (if useB i = true then _ else _) = _
      rw [if_pos (show useB i = true from decide_eq_true hu), ep, nI_clamp (by omega)]
    have hkc : KC pr d p := ⟨m, b, cl, hk, hb, ed, hcl, Or.inr ⟨i, hi, hu, Or.inl ep⟩⟩
    rw [hi2]
    by_cases e0 : i.1 = 0
    · rw [if_pos e0]
      unfold holdsV
      rw [ps_const hkc (show p < 20 by omega) hq]
      exact decide_eq_true (q0 e0)
    · have hr : isRef i := hu.resolve_left e0
      obtain ⟨qk, k, hkl, em⟩ := q1 hr
      have hne := ps_meant hz hW hC hl hk hb hcl ed d6 hdl hi hr ep hp hq qk hkl em
      rw [if_neg e0]
      by_cases e3 : i.1 = 3
      · rw [if_neg (by rw [e3]; decide), if_pos e3]
        rw [show refK i = 4 by unfold refK; rw [if_pos e3]] at hne
        simp [hne]
      · have e12 : i.1 = 1 ∨ i.1 = 2 := by rcases hr with e | e | e; exact Or.inl e; exact Or.inr e; exact absurd e e3
        rw [if_pos e12]
        rw [show refK i = 3 by unfold refK; rw [if_neg e3]] at hne
        simp [hne]
  · have hi2 : (niV pr d i).2 = i.2 := by
      show (if useB i = true then _ else _) = _
      rw [if_neg (show ¬ useB i = true from fun h => hu (show i.1 = 0 ∨ i.1 = 1 ∨ i.1 = 2 ∨ i.1 = 3 from by unfold useB at h; exact of_decide_eq_true h))]
    rw [hi2]
    unfold soundV at hs
    rw [hcl] at hs
    simp only [Option.getD_some] at hs
    have n0 : ¬ i.1 = 0 := fun e => hu (Or.inl e)
    have n12 : ¬ (i.1 = 1 ∨ i.1 = 2) := fun e => hu (Or.inr (e.elim Or.inl fun e => Or.inr (Or.inl e)))
    have n3 : ¬ i.1 = 3 := fun e => hu (Or.inr (Or.inr (Or.inr e)))
    rw [if_neg n0, if_neg n12, if_neg n3] at hs ⊢
    by_cases e4 : i.1 = 4
    · rw [if_pos e4] at hs ⊢; exact hs
    · rw [if_neg e4] at hs ⊢
      by_cases e9 : i.1 = 9 ∨ i.1 = 10
      · rw [if_pos e9] at hs ⊢
        rw [show (nbV pr b).2.2.2.2.length = b.2.2.2.2.length from List.length_map ..]
        exact hs
      · rw [if_neg e9]
end PSC
