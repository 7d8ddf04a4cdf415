/-! the loop -/
theorem law_fin {L i e : Nat} {M M1 K : XM} {k v : Int32} {r23 : Nat → Nat → Nat → Nat → Int32 → XM → XP} (ht : xt M 0 = (5, L)) (he : e ≤ i) (hs : StepOk M e k M1 v K) (hrec : ∀ K e' pr' ps', e' ≤ i + 1 → xt K 0 = (5, L) → Inv K e' pr' ps' → ∃ N, r23 0 1 268 296 (nI (5 * (i + 1))) K = some (.inl (some (.int 1)), N)) :
    ∃ N, (rv K 27 268 <| cI (g_R_thrown 268 K) fun t9 M8 => if t9 = k then (if ¬ k = 0 then (r23 0 1 268 296 (nI (5 * i) + 5) M8) else aJ M8 296 0 fun t10 => if (lg_cmp t10 (v).toInt64) = 0 then (r23 0 1 268 296 (nI (5 * i) + 5) M8) else z01 0 (some (.inl (some (.int 0)), M8))) else z01 0 (some (.inl (some (.int 0)), M8))) = some (.inl (some (.int 1)), N) := by
  obtain ⟨-, -, s3, s4, s5, e', pr', ps', s6, s7⟩ := hs
  obtain ⟨N, hN⟩ := hrec K e' pr' ps' (by omega) (s3.1.trans ht) s7
  exact ⟨N, (w_end (M5 := K) s7.1.2.2.2.2.2.2.2.2.2.2.2 s3.2.2 s7.1.2.2.2.2.2.2.1 s4 s5).trans (by rw [v5]; exact hN)⟩
