/-! the law's entry, clear, fault, moved -/
section PCD5
variable {M : XM} {e : Nat} {pr ps : PR}
theorem wc_entry (h : Inv M e pr ps) (he : e ≤ 600) (m is : Int32) (his : is = 0 ∨ is = 1) : ∃ k M1 K, g_W_entry 1 m is M = rI k M1 ∧ g_R_entry 268 m is M1 = rV K ∧ Scr M M1 ∧ RefAt M1 ∧ Scr M K ∧ xi K 268 0 = k ∧ ∃ e' pr' ps', e' ≤ e + 1 ∧ Inv K e' pr' ps' := by
  obtain ⟨hz, hu⟩ := h.z he
  obtain ⟨a1, a2, a3, a4, a5, a6, a7, a8, a9, a10, a11⟩ := id h
  have hz0 := a1.1
  have hS := s_S_entry a1 a4 hz hu m is his
  unfold g_W_entry
  rw [h.rv20]
  cases hv : entrV pr m is with
  | some pr' =>
    rw [hv] at hS
    obtain ⟨N, n1, n2, n3⟩ := hS
    have i := n3.2.2.2.2.2
    have hA1 : RefAt N := (n3.lay a1).2.2.2.2.2.2.2.2.2.2.2
    have hR := s_R_entry hA1 (a5.congr fun b _ _ => i b (by omega)) a6 m is his
    rw [hv] at hR
    obtain ⟨K, k1, k2, k3, k4, k5⟩ := hR
    have j := k5.2.2.2.2.2
    have hzN : xz N = xz M := n3.1
    refine ⟨0, N, K, by rw [n1]; rfl, k1, ⟨by rw [n3.2.2.1], i 0 (by omega), by omega⟩, hA1, ⟨by rw [k5.2.2.1, n3.2.2.1], by rw [j 0 (by omega)]; exact i 0 (by omega), by rw [k5.1]; omega⟩, k2, e, pr', ps, by omega, ?_⟩
    refine ⟨k5.lay (n3.lay a1), by rw [k5.1]; omega, by rw [k5.2.1, n3.2.1]; exact a3, n2.congr fun b _ _ => j b (by omega), k3, WF.entr a6 m is his hv, a7.congr fun b _ _ => (j b (by omega)).trans (i b (by omega)), k4 ps (a8.congr fun b _ _ => i b (by omega)), a9, a10, fun m hm => ?_⟩
    rw [j _ (by omega), j _ (by omega), i _ (by omega), i _ (by omega)]
    exact a11 m hm
  | none =>
    rw [hv] at hS
    have hs : Same M (xnw M 41 0 6) := Same.nw hz0
    have hI1 : Inv (xnw M 41 0 6) (e + 1) pr ps := h.same hs (by show xz M + 1 = _; omega) (by show xu M + 6 ≤ _; omega)
    have hR := s_R_entry hI1.1.2.2.2.2.2.2.2.2.2.2.2 hI1.2.2.2.2.1 a6 m is his
    rw [hv] at hR
    obtain ⟨K, k1, k2, k3⟩ := hR
    have j := k3.2.2.2.2.2
    rw [show g_S_entry 1 m is M = _ from hS]
    exact ⟨1, _, K, w1V rfl, k1, ⟨(hs.2 0 (by omega)).1, (hs.2 0 (by omega)).2.2, hI1.1.1⟩, hI1.1.2.2.2.2.2.2.2.2.2.2.2, ⟨by rw [k3.2.2.1]; exact (hs.2 0 (by omega)).1, by rw [j 0 (by omega)]; exact (hs.2 0 (by omega)).2.2, by rw [k3.1]; exact hI1.1.1⟩, k2, e + 1, pr, ps, by omega, hI1.up (k3.wide (by omega) (by omega)) (hI1.2.2.2.2.1.congr fun b _ _ => j b (by omega)) (hI1.2.2.2.2.2.2.2.1.congr fun b _ _ => j b (by omega)) hI1.2.2.2.1 a6⟩
theorem wc_clear (h : Inv M e pr ps) : ∃ M1 K, g_S_clear 1 M = rV M1 ∧ RefAt M1 ∧ g_R_clear 268 M1 = rV K ∧ Scr M K ∧ Inv K e ([], []) ps := by
  obtain ⟨a1, a2, a3, a4, a5, a6, a7, a8, a9, a10, a11⟩ := id h
  have hz0 := a1.1
  obtain ⟨N, n1, n2, n3⟩ := s_S_clear a1
  have i := n3.2.2.2.2.2
  have hA1 : RefAt N := (n3.lay a1).2.2.2.2.2.2.2.2.2.2.2
  obtain ⟨K, k1, k3, k4, k5⟩ := s_R_clear hA1
  have j := k5.2.2.2.2.2
  have hzN : xz N = xz M := n3.1
  refine ⟨N, K, n1, hA1, k1, ⟨by rw [k5.2.2.1, n3.2.2.1], by rw [j 0 (by omega)]; exact i 0 (by omega), by rw [k5.1]; omega⟩, ?_⟩
  refine ⟨k5.lay (n3.lay a1), by rw [k5.1]; omega, by rw [k5.2.1, n3.2.1]; exact a3, n2.congr fun b _ _ => j b (by omega), k3, WF.nil, a7.congr fun b _ _ => (j b (by omega)).trans (i b (by omega)), k4 ps (a8.congr fun b _ _ => i b (by omega)), a9, a10, fun m hm => ?_⟩
  rw [j _ (by omega), j _ (by omega), i _ (by omega), i _ (by omega)]
  exact a11 m hm
theorem wc_code0 (h : Inv M e pr ps) : Inv (xpi M 268 0 0) e pr ps ∧ Scr M (xpi M 268 0 0) := ⟨h.upS (UpdS.rf.pi (by omega)), rfl, xi_row (by omega), h.1.1⟩
theorem wc_moved (h : Inv M e pr ps) (x : Int32) : movedV M 237 x = movedV M 282 x := by
  unfold movedV
  rcases pk_ix (n := 30) x (by decide) with h1 | h1 | ⟨j, hj, rfl⟩
  · rw [if_pos h1, if_pos h1]
  · have h' : (30 : Int32) ≤ x := h1
    by_cases h0 : x < 0
    · rw [if_pos h0, if_pos h0]
    · rw [if_neg h0, if_neg h0, if_pos h', if_pos h']
  · rw [nI_clamp (by omega), h.2.2.2.2.2.2.2.2.2.2 j hj]
end PCD5
