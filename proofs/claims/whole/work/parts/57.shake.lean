/-! both shakes -/
def goodV (pr : PR) : Prop := faultV pr = -1 ∧ ¬ entV pr.2 0 = 0
section PSH
variable {M : XM} {pr : PR}
theorem s_S_shake (hL : Lay M) (hR : RepC M 2 pr) (hW : WF pr) (h : goodV pr) : ∃ N, g_S_shake 1 M = rI (nI (psV pr).2.length) N ∧ Upd 119 249 M N ∧ CtW N pr (psV pr) := by
  obtain ⟨l0, l1, l2, l3, l4, l5, l6, hA, -⟩ := id hL
  have hz := hA.1
  obtain ⟨N, n1, n2, n3⟩ := s_K_rebuild ⟨hL, hR⟩ hW (fault_clo hR.sz h.1)
  obtain ⟨k0, k1, k2, k3, k4, k5, k6, -⟩ := id n3.1
  have hp2 := n3.p2
  have hz2 := hp2.1
  refine ⟨N, ?_, n2, n3⟩
  unfold g_S_shake
  rw [gR_e (by omega) l1 l2, rv_e (by omega) hA.2.1, s_P_firstFault hA hR hW, cI_e, if_pos h.1, gR_e (by omega) l1 l2, rv_e (by omega) hA.2.1, s_P_entries hA hR, cI_e, if_pos h.2, gR_e (by omega) l1 l4, gR_e (by omega) l1 l2, gR_e (by omega) l1 l3, rv24 (pr := pr) ⟨hL, hR⟩, n1, cV_e, gR_e (by omega) k1 k3, gI_e (by omega) hp2.2.1, n3.2.2.1.2.2.2.1]
theorem s_S_shakeX (hL : Lay M) (hR : RepC M 2 pr) (hW : WF pr) (h : ¬ goodV pr) (hz' : xz M < ZM) (hu : xu M + 6 ≤ UM) : g_S_shake 1 M = some (.inr (xz M), xnw M 40 0 6) := by
  obtain ⟨l0, l1, l2, l3, l4, l5, l6, hA, -⟩ := id hL
  have hz := hA.1
  unfold g_S_shake
  rw [gR_e (by omega) l1 l2, rv_e (by omega) hA.2.1, s_P_firstFault hA hR hW, cI_e]
  by_cases h1 : faultV pr = -1
  · have h2 : entV pr.2 0 = 0 := by
      by_cases h2 : entV pr.2 0 = 0
      · exact h2
      · exact absurd ⟨h1, h2⟩ h
    rw [if_pos h1, gR_e (by omega) l1 l2, rv_e (by omega) hA.2.1, s_P_entries hA hR, cI_e, if_neg (fun h => h h2)]
    exact tX_e hz' hu
  · rw [if_neg h1]
    exact tX_e hz' hu
theorem s_R_shake (hA : RefAt M) (hR : RepR M 0 pr) (hW : WF pr) (h : goodV pr) : ∃ N, g_R_shake 268 M = rI (nI (psV pr).2.length) N ∧ xi N 268 0 = 0 ∧ RepR N 0 pr ∧ RepR N 1 (psV pr) ∧ (∀ m, m < 30 → xi N 282 m = num (kM pr) m) ∧ Upd 268 289 M N := by
  have hz := hA.1
  have h30 := hR.2.2.1
  have h6 := hR.1
  have hC := fault_clo hR.sz h.1
  have hU0 : Upd 268 289 M (xpi M 268 0 0) := Upd.rf.pi (by omega) (by omega)
  have c0 : CtQ (xpi M 268 0 0) pr := ⟨hA, hR.code⟩
  obtain ⟨M1, a1, a2, a3⟩ := s_R_reach hW hC pr.2 0 _ c0 (fun m b hm => by omega) (Nat.zero_le _) rfl FU (show _ < 5000 by omega)
  have c1 := (a2.wide (by omega) (by omega) : Upd 282 289 _ M1).ctq c0
  obtain ⟨M2, b1, b2, b3⟩ := s_R_mark hW hC 120 0 M1 (by omega) c1 a3 (fun k hk => by omega) FU (show 120 < 5000 by decide)
  have c2 := (b2.wide (by omega) (by omega) : Upd 282 289 _ M2).ctq c1
  obtain ⟨M3, d1, d2, d3, d4, d5⟩ := s_R_numberAll c2 hW (a3.up (b2.2.2.2.2.2 283 (by omega))) b3
  have c3 := (d2.wide (by omega) (by omega) : Upd 282 289 _ M3).ctq c2
  obtain ⟨M4, e1, e2, e3⟩ := s_R_giveNames hW 100 0 M3 (by omega) c3 d4 (fun k hk => by omega) FU (show 100 < 5000 by decide)
  have c4 := (e2.wide (by omega) (by omega) : Upd 282 289 _ M4).ctq c3
  have hr : ∀ a, a < 287 → xi M4 a = xi M3 a := fun a ha => e2.2.2.2.2.2 a (by omega)
  have cV4 : CtV M4 pr := ⟨c4, d3.up (hr _ (by omega)), d4.up (hr _ (by omega)), ⟨fun m hm => by rw [hr _ (by omega)]; exact d5.1 m hm, fun m hm => by rw [hr _ (by omega)]; exact d5.2.1 m hm, fun d cl j hd hj => by rw [hr _ (by omega)]; exact d5.2.2 d cl j hd hj⟩, e3⟩
  obtain ⟨N, n1, n2, n3⟩ := s_R_copyKept cV4 hW hC
  have cN := n2.ctv cV4
  have hzN := cN.1.1.1
  have hUN : Upd 268 289 M N := hU0.tr ((((a2.wide (by omega) (by omega)).tr (b2.wide (by omega) (by omega))).tr (d2.wide (by omega) (by omega))).tr ((e2.wide (by omega) (by omega)).tr (n2.upd.wide (by omega) (by omega))))
  have hc0 : xi N 268 0 = 0 := by
    rw [n2.2.2.2.2.2.1 268 (by omega), e2.2.2.2.2.2 268 (by omega), d2.2.2.2.2.2 268 (by omega), b2.2.2.2.2.2 268 (by omega), a2.2.2.2.2.2 268 (by omega), xi_eq]
  refine ⟨N, ?_, hc0, cN.1.2, n3, cN.2.2.2.1.1, hUN⟩
  unfold g_R_shake
  rw [rv27 hA, s_R_firstFault hA hR hW, cI_e, h.1, if_neg (by decide), rv27 hA, show g_R_countEntries 268 0 M = rI (entV pr.2 0) M from s_R_countEntries (p := 0) hA (by decide) hR, cI_e, if_pos h.2]
  unfold g_R_shake_21 g_R_reach g_R_markConstants g_R_giveNames
  rw [s_code hA, if_pos (by decide), rv27 c0.1, show g_R_reach_2 FU 268 0 (xpi M 268 0 0) = rV M1 from a1, cV_e, rv27 c1.1, show g_R_markConstants_2 FU 268 0 M1 = rV M2 from b1, cV_e, rv27 c2.1, d1, cV_e, rv27 c3.1, show g_R_giveNames_2 FU 268 0 M3 = rV M4 from e1, cV_e, rv27 c4.1, n1, cV_e, gR_e (by omega) cN.1.1.2.1 (r2 cN.1.1).1, show aI N 270 1 _ = _ from aI_e (i := 1) (by omega) (r2 cN.1.1).2 (by decide) (by decide), n3.2.2.2.1]
theorem s_R_shakeX (hA : RefAt M) (hR : RepR M 0 pr) (hW : WF pr) (h : ¬ goodV pr) : ∃ v, g_R_shake 268 M = rI v (xpi M 268 0 1) := by
  have hz := hA.1
  have h16 : ∃ v, g_R_shake_16 268 268 M = rI v (xpi M 268 0 1) := by
    unfold g_R_shake_16 g_R_shake_21
    rw [s_code hA, if_neg (by decide)]
    exact ⟨_, rfl⟩
  unfold g_R_shake
  rw [rv27 hA, s_R_firstFault hA hR hW, cI_e]
  rcases fault_ge hR.sz with hf | ⟨f, hf1, hf⟩
  · have h2 : entV pr.2 0 = 0 := by
      by_cases h2 : entV pr.2 0 = 0
      · exact h2
      · exact absurd ⟨hf, h2⟩ h
    rw [hf, if_neg (by decide), rv27 hA, show g_R_countEntries 268 0 M = rI (entV pr.2 0) M from s_R_countEntries (p := 0) hA (by decide) hR, cI_e, if_neg (fun h => h h2)]
    exact h16
  · rw [hf, if_pos (show (0 : Int32) ≤ nI f from nI_le (a := 0) (Nat.zero_le _) (by omega))]
    exact h16
end PSH
