/-! the class's run -/
theorem ffI_none {pr : PR} {b : MB} : ∀ {t : List IN} {k : Nat}, ffI pr b t k = none → ∀ i ∈ t, soundV pr b i = true
  | [], _, _, i, hi => by cases hi
  | j :: t, k, h, i, hi => by
    unfold ffI at h
    split at h
    · rename_i hs
      rcases List.mem_cons.mp hi with rfl | hi
      · exact hs
      · exact ffI_none h i hi
    · cases h
theorem ffI_some {pr : PR} {b : MB} : ∀ {t : List IN} {k q : Nat}, ffI pr b t k = some q → q < k + t.length
  | [], _, _, h => by cases h
  | j :: t, k, q, h => by
    unfold ffI at h
    split at h
    · have := ffI_some h
      simp only [List.length_cons]; omega
    · cases h; simp
theorem ffM_none {pr : PR} : ∀ {t : List MB} {m : Nat}, m + t.length ≤ 30 → (∀ b ∈ t, b.2.2.2.2.length ≤ 20) → ffM pr t m = -1 → ∀ b ∈ t, ∀ i ∈ b.2.2.2.2, soundV pr b i = true
  | [], _, _, _, _, b, hb => by cases hb
  | c :: t, m, hm, hl, h, b, hb => by
    unfold ffM at h
    simp only [List.length_cons] at hm
    split at h
    · rename_i k hk
      have hk' := ffI_some hk
      have h20 := hl c (List.mem_cons_self ..)
      rw [show (100 : Int32) = nI 100 from rfl, pk_mul, nI_add] at h
      exact absurd (show nI (100 * m + k) < 0 by rw [h]; decide) (nI_pos (by omega))
    · rename_i hn
      rcases List.mem_cons.mp hb with rfl | hb
      · exact ffI_none hn
      · exact ffM_none (by omega) (fun b hb => hl b (List.mem_cons_of_mem _ hb)) h b hb
theorem fault_clo {pr : PR} (hz : Sz pr) (h : faultV pr = -1) : Clo pr := ffM_none (by have := hz.2.1; omega) hz.2.2.2 h
theorem ffM_ge {pr : PR} : ∀ {t : List MB} {m : Nat}, m + t.length ≤ 30 → (∀ b ∈ t, b.2.2.2.2.length ≤ 20) → ffM pr t m = -1 ∨ ∃ j : Nat, j < 10000 ∧ ffM pr t m = nI j
  | [], _, _, _ => Or.inl rfl
  | c :: t, m, hm, hl => by
    unfold ffM
    simp only [List.length_cons] at hm
    split
    · rename_i k hk
      have hk' := ffI_some hk
      have h20 := hl c (List.mem_cons_self ..)
      exact Or.inr ⟨100 * m + k, by omega, by rw [show (100 : Int32) = nI 100 from rfl, pk_mul, nI_add]⟩
    · exact ffM_ge (by omega) fun b hb => hl b (List.mem_cons_of_mem _ hb)
theorem fault_ge {pr : PR} (hz : Sz pr) : faultV pr = -1 ∨ ∃ j : Nat, j < 10000 ∧ faultV pr = nI j := ffM_ge (by have := hz.2.1; omega) hz.2.2.2
def goV (pr : PR) (p : Nat) (m x y : Int32) : AR := if noMeth pr m = true then .inr 1 else if p = 0 ∧ ¬ faultV pr = -1 then .inr 2 else execV pr m.toNatClampNeg x y
theorem noMeth_lk {pr : PR} {m : Int32} (h30 : pr.2.length ≤ 30) (h : noMeth pr m = false) : ∃ (j : Nat) (b : MB), m = nI j ∧ j < pr.2.length ∧ pr.2[j]? = some b := by
  rcases lk_cases pr.2 m (by omega) with ⟨h', hx⟩ | ⟨i, b, rfl, hi, hb, h'⟩
  · unfold noMeth at h; rw [h'] at h; cases h
  · exact ⟨i, b, rfl, hi, hb⟩
theorem s_S_run {M : XM} {p : Nat} {pr : PR} (c : Ctx M (2 + 117 * p) pr) (hp : p < 2) (hW : WF pr) (hC : p = 1 → Clo pr) (m x y : Int32) : OkX M (g_S_run 1 (nI p) m x y M) (goV pr p m x y) := by
  have hL := c.lay
  obtain ⟨l0, l1, l2, l3, l4, l5, l6, p1, p2, hS', hE, hR⟩ := id c.lay
  have h30 := c.rep.2.2.1
  have hz := c.at'.1
  unfold g_S_run goV
  rw [rv_e (by omega) hL.2.1, s_chosen hL hp, cR_e, rv_e (by omega) c.at'.2.1, s_P_hasMethod c.at' c.rep, cI_e]
  cases hno : noMeth pr m with
  | true => rw [if_neg (fun h => h rfl), if_pos rfl]; exact ⟨M, tX_e c.z c.u, UpdE.rf⟩
  | false =>
    rw [if_pos (by decide), if_neg (show ¬ (false = true) by decide)]
    obtain ⟨j, b, rfl, hj, hb⟩ := noMeth_lk h30 hno
    have h49 : Clo pr → OkX M (g_S_run_49 1 (nI j) x y (2 + 117 * p) M) (execV pr j x y) := by
      intro hClo
      unfold g_S_run_49
      rw [gR_e (by omega) l1 l5, rv26 c]
      have := s_E_execute c hW hClo hj x y
      unfold OkX at *
      split at this
      · obtain ⟨N, n1, n2⟩ := this
        exact ⟨N, by rw [n1]; rfl, n2⟩
      · obtain ⟨N, n1, n2⟩ := this
        exact ⟨N, by rw [n1]; rfl, n2⟩
    rw [nI_clamp (by omega)]
    rcases (show p = 0 ∨ p = 1 by omega) with rfl | rfl
    · rw [if_neg (fun h => h rfl), rv_e (by omega) c.at'.2.1, s_P_firstFault c.at' c.rep hW, cI_e]
      by_cases hf : faultV pr = -1
      · rw [if_pos hf, if_neg (fun h => h.2 hf)]
        exact h49 (fault_clo c.rep.sz hf)
      · rw [if_neg hf, if_pos ⟨rfl, hf⟩]
        exact ⟨M, tX_e c.z c.u, UpdE.rf⟩
    · rw [if_pos (by decide), if_neg (fun h => by cases h.1)]
      exact h49 (hC rfl)
