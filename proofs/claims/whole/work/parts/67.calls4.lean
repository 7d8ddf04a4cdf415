/-! the law's shake, entry, clear, fault, moved -/
section PCD4
variable {M : XM} {e : Nat} {pr ps : PR}
theorem wc_shake (h : Inv M e pr ps) (he : e ≤ 600) : ∃ c M1 v K, g_W_shake 1 296 M = rI c M1 ∧ g_R_shake 268 M1 = rI v K ∧ StepOk M e c M1 v K := by
  obtain ⟨hz, hu⟩ := h.z he
  obtain ⟨a1, a2, a3, a4, a5, a6, a7, a8, a9, a10, a11⟩ := id h
  have hz0 := a1.1
  unfold g_W_shake
  rw [h.rv20]
  by_cases hg : goodV pr
  · obtain ⟨N, n1, n2, n3⟩ := s_S_shake a1 a4 a6 hg
    have i := n2.2.2.2.2.2
    have hA1 : RefAt (xpj N 296 0 (nI (psV pr).2.length).toInt64) := n3.1.2.2.2.2.2.2.2.2.2.2.2
    have hR1 : RepR (xpj N 296 0 (nI (psV pr).2.length).toInt64) 0 pr := a5.congr fun b _ _ => i b (by omega)
    obtain ⟨K, k1, k2, k3, k4, k5, k6⟩ := s_R_shake hA1 hR1 a6 hg
    have hzN : xz N = xz M := n2.1
    have j := k6.2.2.2.2.2
    have hC := fault_clo a4.sz hg.1
    rw [n1]
    refine ⟨0, _, _, K, wok n3.1, k1, ⟨by show xt N 0 = _; rw [n2.2.2.1], i 0 (by omega), by show 297 ≤ xz N; omega⟩, hA1, ⟨?_, ?_, ?_⟩, k2, fun _ => by rw [k6.2.2.2.2.1, xj_eq], e, pr, psV pr, by omega, ?_⟩
    · rw [k6.2.2.1]; show xt N 0 = _; rw [n2.2.2.1]
    · rw [j 0 (by omega)]; exact i 0 (by omega)
    · rw [k6.1]; show 297 ≤ xz N; omega
    · refine ⟨k6.lay (n3.1.pj _ _ _), by rw [k6.1]; show xz N = _; omega, by rw [k6.2.1]; show xu N ≤ _; rw [n2.2.1]; exact a3, n3.2.1.congr fun b _ _ => (j b (by omega)).trans rfl, k3, a6, n3.2.2.1.congr fun b _ _ => (j b (by omega)).trans rfl, k4, psV_wf a4.sz a6 hC, psV_clo a4.sz a6 hC n3.2.2.1.2.2.1, fun m hm => ?_⟩
      rw [j 237 (by omega), k5 m hm]
      exact n3.2.2.2.1.1 m hm
  · have hs : Same M (xnw M 40 0 6) := Same.nw hz0
    have hI1 : Inv (xnw M 40 0 6) (e + 1) pr ps := h.same hs (by show xz M + 1 = _; omega) (by show xu M + 6 ≤ _; omega)
    obtain ⟨v, hv⟩ := s_R_shakeX hI1.1.2.2.2.2.2.2.2.2.2.2.2 hI1.2.2.2.2.1 a6 hg
    have hU : UpdS (xnw M 40 0 6) (xpi (xnw M 40 0 6) 268 0 1) := UpdS.rf.pi (by omega)
    rw [s_S_shakeX a1 a4 a6 hg hz hu]
    exact ⟨1, _, v, _, w1 rfl, hv, ⟨(hs.2 0 (by omega)).1, (hs.2 0 (by omega)).2.2, hI1.1.1⟩, hI1.1.2.2.2.2.2.2.2.2.2.2.2, ⟨(hs.2 0 (by omega)).1, by rw [xi_row (by omega)]; exact (hs.2 0 (by omega)).2.2, hI1.1.1⟩, xi_eq _ _ _ _, fun e => absurd e (by decide), e + 1, pr, ps, by omega, hI1.upS hU⟩
end PCD4
