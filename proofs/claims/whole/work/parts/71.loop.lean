/-! all calls -/
theorem law_loop {L : Nat} (hL : L ≤ 2560) : ∀ (r i : Nat) (M : XM) (e : Nat) (pr ps : PR), i + r = 513 → e ≤ i → xt M 0 = (5, L) → Inv M e pr ps → ∀ n, r < n → ∃ N, g_W_law_23 n 0 1 268 296 (nI (5 * i)) M = some (.inl (some (.int 1)), N) := by
  intro r
  induction r with
  | zero =>
    intro i M e pr ps hi he ht h n hn
    obtain ⟨n', rfl⟩ : ∃ n', n = n' + 1 := ⟨n - 1, by omega⟩
    have hz := h.1.1
    unfold g_W_law_23
    rw [aL_e (by omega) ht (by decide), if_pos ((l5 hL (by omega)).mpr (by omega))]
    exact ⟨M, z01_e (Or.inr rfl)⟩
  | succ r ih =>
    intro i M e pr ps hi he ht h n hn
    obtain ⟨n', rfl⟩ : ∃ n', n = n' + 1 := ⟨n - 1, by omega⟩
    have hz := h.1.1
    have hA := h.1.2.2.2.2.2.2.2.2.2.2.2
    have hrec : ∀ K e' pr' ps', e' ≤ i + 1 → xt K 0 = (5, L) → Inv K e' pr' ps' → ∃ N, g_W_law_23 n' 0 1 268 296 (nI (5 * (i + 1))) K = some (.inl (some (.int 1)), N) :=
      fun K e' pr' ps' h1 h2 h3 => ih (i + 1) K e' pr' ps' (by omega) h1 h2 h3 n' (by omega)
    unfold g_W_law_23
    rw [aL_e (by omega) ht (by decide)]
    by_cases hend : L < 5 * i + 5
    · rw [if_pos ((l5 hL (by omega)).mpr hend)]
      exact ⟨M, z01_e (Or.inr rfl)⟩
    rw [if_neg (fun h => hend ((l5 hL (by omega)).mp h)), rdS ht (by omega) (show 5 * i < L by omega) hL]
    have rd : ∀ {K : XM} {j : Nat} {F : Int32 → XP}, Scr M K → j < L → aI K 0 (nI j) F = F (xi M 0 j) := by
      intro K j F hs hj
      rw [rdS (hs.1.trans ht) (by have := hs.2.2; omega) hj hL, hs.2.1]
    have s0 : Scr M M := ⟨rfl, rfl, hz⟩
    have pk : ∀ x : Int32, ∃ p, p < 2 ∧ ((x = 0 ∧ p = 0) ∨ (¬ x = 0 ∧ p = 1)) := by
      intro x
      by_cases hx : x = 0
      · exact ⟨0, by decide, Or.inl ⟨hx, rfl⟩⟩
      · exact ⟨1, by decide, Or.inr ⟨hx, rfl⟩⟩
    rw [v1, v2, v3, v4, v5]
    generalize xi M 0 (5 * i) &&& 15 = op
    by_cases c0 : op = 0
    · rw [if_pos c0]
      obtain ⟨k, M1, v, K, k1, k2, k3⟩ := wc_add h (by omega)
      rw [k1, cI_e, rv27 k3.2.1, k2, cI_e, ← v5]
      exact law_fin ht he k3 hrec
    rw [if_neg c0]
    by_cases c1 : op = 1
    · rw [if_pos c1]
      rw [rd s0 (by omega), rd s0 (by omega), rd s0 (by omega), rd s0 (by omega)]
      obtain ⟨k, M1, v, K, k1, k2, k3⟩ := wc_constant h (by omega) (xi M 0 (5 * i + 1)) (xi M 0 (5 * i + 2)) (xi M 0 (5 * i + 3)) (xi M 0 (5 * i + 4))
      rw [k1, cI_e, rd k3.1 (by omega), rd k3.1 (by omega), rd k3.1 (by omega), rd k3.1 (by omega), rv27 k3.2.1, k2, cI_e, ← v5]
      exact law_fin ht he k3 hrec
    rw [if_neg c1]
    by_cases c2 : op = 2
    · rw [if_pos c2]
      rw [rd s0 (by omega), rd s0 (by omega), rd s0 (by omega)]
      obtain ⟨k, M1, v, K, k1, k2, k3⟩ := wc_member h (by omega) (xi M 0 (5 * i + 1)) (xi M 0 (5 * i + 2)) (xi M 0 (5 * i + 3))
      rw [k1, cI_e, rd k3.1 (by omega), rd k3.1 (by omega), rd k3.1 (by omega), rv27 k3.2.1, k2, cI_e, ← v5]
      exact law_fin ht he k3 hrec
    rw [if_neg c2]
    by_cases c3 : op = 3
    · rw [if_pos c3]
      rw [rd s0 (by omega), rd s0 (by omega), rd s0 (by omega)]
      obtain ⟨k, M1, v, K, k1, k2, k3⟩ := wc_code h (by omega) (xi M 0 (5 * i + 1)) (xi M 0 (5 * i + 2)) (xi M 0 (5 * i + 3))
      rw [k1, cI_e, rd k3.1 (by omega), rd k3.1 (by omega), rd k3.1 (by omega), rv27 k3.2.1, k2, cI_e, ← v5]
      exact law_fin ht he k3 hrec
    rw [if_neg c3]
    by_cases c4 : op = 4
    · rw [if_pos c4]
      rw [rd s0 (by omega), rd s0 (by omega)]
      by_cases hx : xi M 0 (5 * i + 2) = 0
      · obtain ⟨k, M1, K, k1, k2, k3, k4, k5, k6, e', pr', ps', k7, k8⟩ := wc_entry h (by omega) (xi M 0 (5 * i + 1)) 0 (Or.inl rfl)
        have hAK := k8.1.2.2.2.2.2.2.2.2.2.2.2
        rw [if_pos hx]
        unfold g_W_law_429
        rw [k1, cI_e, v1, v2, rd k3 (by omega), rd k3 (by omega), if_pos hx]
        unfold g_W_law_455
        rw [rv27 k4, k2, cV_e, rv27 hAK, s_R_thrown hAK, cI_e, if_pos k6, v5]
        exact hrec K e' pr' ps' (by omega) (k5.1.trans ht) k8
      · obtain ⟨k, M1, K, k1, k2, k3, k4, k5, k6, e', pr', ps', k7, k8⟩ := wc_entry h (by omega) (xi M 0 (5 * i + 1)) 1 (Or.inr rfl)
        have hAK := k8.1.2.2.2.2.2.2.2.2.2.2.2
        rw [if_neg hx]
        unfold g_W_law_429
        rw [k1, cI_e, v1, v2, rd k3 (by omega), rd k3 (by omega), if_neg hx]
        unfold g_W_law_455
        rw [rv27 k4, k2, cV_e, rv27 hAK, s_R_thrown hAK, cI_e, if_pos k6, v5]
        exact hrec K e' pr' ps' (by omega) (k5.1.trans ht) k8
    rw [if_neg c4]
    by_cases c5 : op = 5
    · rw [if_pos c5]
      obtain ⟨M1, K, k1, k2, k3, k4, k5⟩ := wc_clear h
      rw [h.rv20, k1, cV_e, rv27 k2, k3, cV_e]
      exact hrec K e _ _ (by omega) (k4.1.trans ht) k5
    rw [if_neg c5]
    by_cases c6 : op = 6
    · rw [if_pos c6]
      rw [h.rv20, s_S_fault h.1 h.2.2.2.1 h.2.2.2.2.2.1, cI_e, rv27 hA, s_R_fault hA h.2.2.2.2.1 h.2.2.2.2.2.1, cI_e, if_pos rfl]
      exact hrec _ e _ _ (by omega) ((wc_code0 h).2.1.trans ht) (wc_code0 h).1
    rw [if_neg c6]
    by_cases c7 : op = 7
    · rw [if_pos c7]
      obtain ⟨k, M1, v, K, k1, k2, k3⟩ := wc_shake h (by omega)
      rw [k1, cI_e, rv27 k3.2.1, k2, cI_e, ← v5]
      exact law_fin ht he k3 hrec
    rw [if_neg c7]
    by_cases c8 : op = 8
    · rw [if_pos c8]
      rw [rd s0 (by omega)]
      by_cases hx : xi M 0 (5 * i + 1) = 0
      · obtain ⟨k, M1, v, K, k1, k2, k3⟩ := wc_count (p := 0) h (by omega) (by decide) (xi M 0 (5 * i + 2))
        rw [if_pos hx]
        unfold g_W_law_555
        rw [v2, v1, rd s0 (by omega), show g_W_count 1 0 (xi M 0 (5 * i + 2)) 296 M = rI k M1 from k1, cI_e, rd k3.1 (by omega), if_pos hx]
        unfold g_W_law_582
        rw [v2, rd k3.1 (by omega), rv27 k3.2.1, show g_R_count 268 0 (xi M 0 (5 * i + 2)) M1 = rI v K from k2, cI_e]
        exact law_fin ht he k3 hrec
      · obtain ⟨k, M1, v, K, k1, k2, k3⟩ := wc_count (p := 1) h (by omega) (by decide) (xi M 0 (5 * i + 2))
        rw [if_neg hx]
        unfold g_W_law_555
        rw [v2, v1, rd s0 (by omega), show g_W_count 1 1 (xi M 0 (5 * i + 2)) 296 M = rI k M1 from k1, cI_e, rd k3.1 (by omega), if_neg hx]
        unfold g_W_law_582
        rw [v2, rd k3.1 (by omega), rv27 k3.2.1, show g_R_count 268 1 (xi M 0 (5 * i + 2)) M1 = rI v K from k2, cI_e]
        exact law_fin ht he k3 hrec
    rw [if_neg c8]
    by_cases c9 : op = 9
    · rw [if_pos c9]
      rw [rd s0 (by omega)]
      by_cases hx : xi M 0 (5 * i + 1) = 0
      · obtain ⟨k, M1, v, K, k1, k2, k3⟩ := wc_pool (p := 0) h (by omega) (by decide) (xi M 0 (5 * i + 2))
        rw [if_pos hx]
        unfold g_W_law_639
        rw [v2, v1, rd s0 (by omega), show g_W_pool 1 0 (xi M 0 (5 * i + 2)) 296 M = rI k M1 from k1, cI_e, rd k3.1 (by omega), if_pos hx]
        unfold g_W_law_666
        rw [v2, rd k3.1 (by omega), rv27 k3.2.1, show g_R_pool 268 0 (xi M 0 (5 * i + 2)) M1 = rI v K from k2, cI_e]
        exact law_fin ht he k3 hrec
      · obtain ⟨k, M1, v, K, k1, k2, k3⟩ := wc_pool (p := 1) h (by omega) (by decide) (xi M 0 (5 * i + 2))
        rw [if_neg hx]
        unfold g_W_law_639
        rw [v2, v1, rd s0 (by omega), show g_W_pool 1 1 (xi M 0 (5 * i + 2)) 296 M = rI k M1 from k1, cI_e, rd k3.1 (by omega), if_neg hx]
        unfold g_W_law_666
        rw [v2, rd k3.1 (by omega), rv27 k3.2.1, show g_R_pool 268 1 (xi M 0 (5 * i + 2)) M1 = rI v K from k2, cI_e]
        exact law_fin ht he k3 hrec
    rw [if_neg c9]
    by_cases c10 : op = 10
    · rw [if_pos c10]
      rw [rd s0 (by omega)]
      by_cases hx : xi M 0 (5 * i + 1) = 0
      · obtain ⟨k, M1, v, K, k1, k2, k3⟩ := wc_constantAt (p := 0) h (by omega) (by decide) (xi M 0 (5 * i + 2)) (xi M 0 (5 * i + 3)) (xi M 0 (5 * i + 4))
        rw [if_pos hx]
        unfold g_W_law_723
        rw [v2, v3, v4, v1, rd s0 (by omega), rd s0 (by omega), rd s0 (by omega), show g_W_constantAt 1 0 (xi M 0 (5 * i + 2)) (xi M 0 (5 * i + 3)) (xi M 0 (5 * i + 4)) 296 M = rI k M1 from k1, cI_e, rd k3.1 (by omega), if_pos hx]
        unfold g_W_law_762
        rw [v2, v3, v4, rd k3.1 (by omega), rd k3.1 (by omega), rd k3.1 (by omega), rv27 k3.2.1, show g_R_constantAt 268 0 (xi M 0 (5 * i + 2)) (xi M 0 (5 * i + 3)) (xi M 0 (5 * i + 4)) M1 = rI v K from k2, cI_e]
        exact law_fin ht he k3 hrec
      · obtain ⟨k, M1, v, K, k1, k2, k3⟩ := wc_constantAt (p := 1) h (by omega) (by decide) (xi M 0 (5 * i + 2)) (xi M 0 (5 * i + 3)) (xi M 0 (5 * i + 4))
        rw [if_neg hx]
        unfold g_W_law_723
        rw [v2, v3, v4, v1, rd s0 (by omega), rd s0 (by omega), rd s0 (by omega), show g_W_constantAt 1 1 (xi M 0 (5 * i + 2)) (xi M 0 (5 * i + 3)) (xi M 0 (5 * i + 4)) 296 M = rI k M1 from k1, cI_e, rd k3.1 (by omega), if_neg hx]
        unfold g_W_law_762
        rw [v2, v3, v4, rd k3.1 (by omega), rd k3.1 (by omega), rd k3.1 (by omega), rv27 k3.2.1, show g_R_constantAt 268 1 (xi M 0 (5 * i + 2)) (xi M 0 (5 * i + 3)) (xi M 0 (5 * i + 4)) M1 = rI v K from k2, cI_e]
        exact law_fin ht he k3 hrec
    rw [if_neg c10]
    by_cases c11 : op = 11
    · rw [if_pos c11]
      rw [rd s0 (by omega)]
      by_cases hx : xi M 0 (5 * i + 1) = 0
      · obtain ⟨k, M1, v, K, k1, k2, k3⟩ := wc_memberAt (p := 0) h (by omega) (by decide) (xi M 0 (5 * i + 2)) (xi M 0 (5 * i + 3))
        rw [if_pos hx]
        unfold g_W_law_831
        rw [v2, v3, v1, rd s0 (by omega), rd s0 (by omega), show g_W_memberAt 1 0 (xi M 0 (5 * i + 2)) (xi M 0 (5 * i + 3)) 296 M = rI k M1 from k1, cI_e, rd k3.1 (by omega), if_pos hx]
        unfold g_W_law_864
        rw [v2, v3, rd k3.1 (by omega), rd k3.1 (by omega), rv27 k3.2.1, show g_R_memberAt 268 0 (xi M 0 (5 * i + 2)) (xi M 0 (5 * i + 3)) M1 = rI v K from k2, cI_e]
        exact law_fin ht he k3 hrec
      · obtain ⟨k, M1, v, K, k1, k2, k3⟩ := wc_memberAt (p := 1) h (by omega) (by decide) (xi M 0 (5 * i + 2)) (xi M 0 (5 * i + 3))
        rw [if_neg hx]
        unfold g_W_law_831
        rw [v2, v3, v1, rd s0 (by omega), rd s0 (by omega), show g_W_memberAt 1 1 (xi M 0 (5 * i + 2)) (xi M 0 (5 * i + 3)) 296 M = rI k M1 from k1, cI_e, rd k3.1 (by omega), if_neg hx]
        unfold g_W_law_864
        rw [v2, v3, rd k3.1 (by omega), rd k3.1 (by omega), rv27 k3.2.1, show g_R_memberAt 268 1 (xi M 0 (5 * i + 2)) (xi M 0 (5 * i + 3)) M1 = rI v K from k2, cI_e]
        exact law_fin ht he k3 hrec
    rw [if_neg c11]
    by_cases c12 : op = 12
    · rw [if_pos c12]
      rw [rd s0 (by omega)]
      by_cases hx : xi M 0 (5 * i + 1) = 0
      · obtain ⟨k, M1, v, K, k1, k2, k3⟩ := wc_codeAt (p := 0) h (by omega) (by decide) (xi M 0 (5 * i + 2)) (xi M 0 (5 * i + 3))
        rw [if_pos hx]
        unfold g_W_law_927
        rw [v2, v3, v1, rd s0 (by omega), rd s0 (by omega), show g_W_codeAt 1 0 (xi M 0 (5 * i + 2)) (xi M 0 (5 * i + 3)) 296 M = rI k M1 from k1, cI_e, rd k3.1 (by omega), if_pos hx]
        unfold g_W_law_960
        rw [v2, v3, rd k3.1 (by omega), rd k3.1 (by omega), rv27 k3.2.1, show g_R_codeAt 268 0 (xi M 0 (5 * i + 2)) (xi M 0 (5 * i + 3)) M1 = rI v K from k2, cI_e]
        exact law_fin ht he k3 hrec
      · obtain ⟨k, M1, v, K, k1, k2, k3⟩ := wc_codeAt (p := 1) h (by omega) (by decide) (xi M 0 (5 * i + 2)) (xi M 0 (5 * i + 3))
        rw [if_neg hx]
        unfold g_W_law_927
        rw [v2, v3, v1, rd s0 (by omega), rd s0 (by omega), show g_W_codeAt 1 1 (xi M 0 (5 * i + 2)) (xi M 0 (5 * i + 3)) 296 M = rI k M1 from k1, cI_e, rd k3.1 (by omega), if_neg hx]
        unfold g_W_law_960
        rw [v2, v3, rd k3.1 (by omega), rd k3.1 (by omega), rv27 k3.2.1, show g_R_codeAt 268 1 (xi M 0 (5 * i + 2)) (xi M 0 (5 * i + 3)) M1 = rI v K from k2, cI_e]
        exact law_fin ht he k3 hrec
    rw [if_neg c12]
    by_cases c13 : op = 13
    · rw [if_pos c13]
      rw [rd s0 (by omega), h.rv20, s_S_moved h.1, cI_e, rd s0 (by omega), rv27 hA, s_R_moved hA, cI_e, if_pos (wc_moved h _)]
      exact hrec _ e _ _ (by omega) ((wc_code0 h).2.1.trans ht) (wc_code0 h).1
    rw [if_neg c13]
    by_cases c14 : op = 14
    · rw [if_pos c14]
      rw [rd s0 (by omega)]
      by_cases hx : xi M 0 (5 * i + 1) = 0
      · obtain ⟨k, M1, v, K, k1, k2, k3⟩ := wc_run (p := 0) h (by omega) (by decide) (xi M 0 (5 * i + 2)) (xi M 0 (5 * i + 3)) (xi M 0 (5 * i + 4))
        rw [if_pos hx]
        unfold g_W_law_1048
        rw [v2, v3, v4, v1, rd s0 (by omega), rd s0 (by omega), rd s0 (by omega), show g_W_run 1 0 (xi M 0 (5 * i + 2)) (xi M 0 (5 * i + 3)) (xi M 0 (5 * i + 4)) 296 M = rI k M1 from k1, cI_e, rd k3.1 (by omega), if_pos hx]
        unfold g_W_law_1087
        rw [v2, v3, v4, rd k3.1 (by omega), rd k3.1 (by omega), rd k3.1 (by omega), rv27 k3.2.1, show g_R_run 268 0 (xi M 0 (5 * i + 2)) (xi M 0 (5 * i + 3)) (xi M 0 (5 * i + 4)) M1 = rI v K from k2, cI_e]
        exact law_fin ht he k3 hrec
      · obtain ⟨k, M1, v, K, k1, k2, k3⟩ := wc_run (p := 1) h (by omega) (by decide) (xi M 0 (5 * i + 2)) (xi M 0 (5 * i + 3)) (xi M 0 (5 * i + 4))
        rw [if_neg hx]
        unfold g_W_law_1048
        rw [v2, v3, v4, v1, rd s0 (by omega), rd s0 (by omega), rd s0 (by omega), show g_W_run 1 1 (xi M 0 (5 * i + 2)) (xi M 0 (5 * i + 3)) (xi M 0 (5 * i + 4)) 296 M = rI k M1 from k1, cI_e, rd k3.1 (by omega), if_neg hx]
        unfold g_W_law_1087
        rw [v2, v3, v4, rd k3.1 (by omega), rd k3.1 (by omega), rd k3.1 (by omega), rv27 k3.2.1, show g_R_run 268 1 (xi M 0 (5 * i + 2)) (xi M 0 (5 * i + 3)) (xi M 0 (5 * i + 4)) M1 = rI v K from k2, cI_e]
        exact law_fin ht he k3 hrec
    rw [if_neg c14]
    exact hrec M e _ _ (by omega) ht h
