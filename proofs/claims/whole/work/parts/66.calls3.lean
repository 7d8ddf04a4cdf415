/-! the law's other calls -/
theorem pop_lt {st : List Int32} {k : Int32 → List Int32 → SR} (hk : ∀ v t e0, k v t = .inr e0 → e0 < 5) {e0 : Nat} (h : popV st k = .inr e0) : e0 < 5 := by
  unfold popV at h
  split at h
  · cases h; decide
  · exact hk _ _ _ h
theorem push_lt {vs : Nat → Int32} {r v : Int32} {t : List FR} {fr : FR} {e0 : Nat} (h : pushV vs r t fr v = .inr e0) : e0 < 5 := by
  unfold pushV at h
  split at h
  · cases h
  · cases h; decide
theorem begin_lt {vs : Nat → Int32} {r x y : Int32} {fs : List FR} {m e0 : Nat} (h : beginV vs r fs m x y = .inr e0) : e0 < 5 := by
  unfold beginV at h
  split at h
  · cases h
  · cases h; decide
theorem inst_lt {pr : PR} {cl : List CT} {vs : Nat → Int32} {r : Int32} {t : List FR} {fr : FR} {i : IN} {e0 : Nat} (h : instV pr cl vs r t fr i = .inr e0) : e0 < 5 := by
  unfold instV at h
  split at h
  · exact push_lt h
  split at h
  · exact push_lt h
  split at h
  · exact pop_lt (fun v t e0 h => by cases h) h
  split at h
  · unfold invV at h
    split at h
    · cases h; decide
    · split at h
      · exact pop_lt (fun v t e0 h => pop_lt (fun v t e0 h => begin_lt h) h) h
      · split at h
        · exact pop_lt (fun v t e0 h => begin_lt h) h
        · exact begin_lt h
  split at h
  · exact push_lt h
  split at h
  · exact pop_lt (fun v t e0 h => by cases h) h
  split at h
  · cases h
  split at h
  · refine pop_lt (fun v _ e0 h => ?_) h
    unfold endV at h
    split at h
    · cases h
    · exact push_lt h
  split at h
  · exact pop_lt (fun v t e0 h => by cases h; decide) h
  · unfold calcV at h
    refine pop_lt (fun v _ e0 h => pop_lt (fun v _ e0 h => ?_) h) h
    split at h
    · cases h; decide
    · exact push_lt h
theorem run_lt {pr : PR} : ∀ {n : Nat} {s : ST} {e0 : Nat}, runV pr n s = .inr e0 → e0 < 5
  | 0, _, _, h => by cases h; decide
  | n + 1, s, e0, h => by
    unfold runV at h
    split at h
    · rename_i e1 h1
      cases h
      unfold stepV at h1
      split at h1
      · cases h1; decide
      · split at h1
        · cases h1; decide
        · split at h1
          · cases h1; decide
          · exact inst_lt h1
    · split at h
      · cases h
      · exact run_lt h
theorem go_lt {pr : PR} {p : Nat} {m x y : Int32} {e0 : Nat} (h : goV pr p m x y = .inr e0) : e0 < 5 := by
  unfold goV at h
  split at h
  · cases h; decide
  · split at h
    · cases h; decide
    · exact run_lt h
section PCC
variable {M : XM} {e p : Nat} {pr ps : PR}
theorem wc_run (h : Inv M e pr ps) (he : e ≤ 600) (hp : p < 2) (m x y : Int32) : ∃ c M1 v K, g_W_run 1 (nI p) m x y 296 M = rI c M1 ∧ g_R_run 268 (nI p) m x y M1 = rI v K ∧ StepOk M e c M1 v K := by
  obtain ⟨hz, hu⟩ := h.z he
  obtain ⟨q, q1, q2, q3, q4⟩ := h.pick hp
  unfold g_W_run
  rw [h.rv20]
  exact ask (gR := fun M1 => g_R_run 268 (nI p) m x y M1) (ec := ec5) h (s_S_run ⟨h.1, hz, hu, h.1.prog hp, q1, by omega⟩ hp q2 q3 m x y) (fun e0 h0 => by have := go_lt h0; have := ec5_pos e0; unfold ec5 at *; split <;> omega) (fun e0 N h0 hN => w5 (go_lt h0) hN) (fun M1 e1 h1 => (s_R_run ⟨(q4 M1 e1 h1).1, (q4 M1 e1 h1).2, hp⟩ (fun _ => ⟨pr, h1.2.2.2.2.1, h1.2.2.2.2.2.1⟩) q2 q3 m x y).y)
end PCC
