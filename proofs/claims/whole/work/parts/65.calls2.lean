/-! the law's asking calls -/
section PCB
variable {M : XM} {e p : Nat} {pr ps : PR}
theorem Inv.pick (h : Inv M e pr ps) (hp : p < 2) : ∃ q, RepC M (2 + 117 * p) q ∧ WF q ∧ (p = 1 → Clo q) ∧ ∀ M1 e1, Inv M1 e1 pr ps → RefAt M1 ∧ RepR M1 p q := by
  rcases (show p = 0 ∨ p = 1 by omega) with rfl | rfl
  · exact ⟨pr, h.2.2.2.1, h.2.2.2.2.2.1, (fun h => by cases h), fun M1 e1 h1 => ⟨h1.1.2.2.2.2.2.2.2.2.2.2.2, h1.2.2.2.2.1⟩⟩
  · exact ⟨ps, h.2.2.2.2.2.2.1, h.2.2.2.2.2.2.2.2.1, fun _ => h.2.2.2.2.2.2.2.2.2.1, fun M1 e1 h1 => ⟨h1.1.2.2.2.2.2.2.2.2.2.2.2, h1.2.2.2.2.2.2.2.1⟩⟩
theorem wc_count (h : Inv M e pr ps) (he : e ≤ 600) (hp : p < 2) (w : Int32) : ∃ c M1 v K, g_W_count 1 (nI p) w 296 M = rI c M1 ∧ g_R_count 268 (nI p) w M1 = rI v K ∧ StepOk M e c M1 v K := by
  obtain ⟨hz, hu⟩ := h.z he
  obtain ⟨q, q1, q2, q3, q4⟩ := h.pick hp
  have hx : ∀ e0, countV q w = .inr e0 → e0 = 2 := by
    intro e0 h0
    unfold countV at h0
    split at h0
    · cases h0
    split at h0
    · cases h0
    split at h0
    · cases h0
    · cases h0; rfl
  unfold g_W_count
  rw [h.rv20]
  exact ask (gR := fun M1 => g_R_count 268 (nI p) w M1) (ec := fun _ => 1) h (s_S_count h.1 hp q1 hz hu w).x (fun e0 _ => by decide) (fun e0 N h0 hN => by rw [hx e0 h0]; exact w1 hN) (fun M1 e1 h1 => (s_R_count (q4 M1 e1 h1).1 hp (q4 M1 e1 h1).2 w).y)
theorem wc_pool (h : Inv M e pr ps) (he : e ≤ 600) (hp : p < 2) (w : Int32) : ∃ c M1 v K, g_W_pool 1 (nI p) w 296 M = rI c M1 ∧ g_R_pool 268 (nI p) w M1 = rI v K ∧ StepOk M e c M1 v K := by
  obtain ⟨hz, hu⟩ := h.z he
  obtain ⟨q, q1, q2, q3, q4⟩ := h.pick hp
  have hx : ∀ e0, poolV q w = .inr e0 → e0 = 1 := by
    intro e0 h0
    unfold poolV at h0
    split at h0
    · cases h0
    · cases h0; rfl
  unfold g_W_pool
  rw [h.rv20]
  exact ask (gR := fun M1 => g_R_pool 268 (nI p) w M1) (ec := fun _ => 1) h (s_S_pool h.1 hp q1 hz hu w).x (fun e0 _ => by decide) (fun e0 N h0 hN => by rw [hx e0 h0]; exact w1 hN) (fun M1 e1 h1 => (s_R_pool (q4 M1 e1 h1).1 hp (q4 M1 e1 h1).2 w).y)
theorem wc_constantAt (h : Inv M e pr ps) (he : e ≤ 600) (hp : p < 2) (o x w : Int32) : ∃ c M1 v K, g_W_constantAt 1 (nI p) o x w 296 M = rI c M1 ∧ g_R_constantAt 268 (nI p) o x w M1 = rI v K ∧ StepOk M e c M1 v K := by
  obtain ⟨hz, hu⟩ := h.z he
  obtain ⟨q, q1, q2, q3, q4⟩ := h.pick hp
  have hx : ∀ e0, constAtV q o x w = .inr e0 → e0 = 1 ∨ e0 = 2 := by
    intro e0 h0
    unfold constAtV at h0
    split at h0
    · cases h0; simp
    split at h0
    · cases h0; simp
    split at h0
    · cases h0
    split at h0
    · cases h0
    split at h0
    · cases h0
    · cases h0; simp
  unfold g_W_constantAt
  rw [h.rv20]
  exact ask (gR := fun M1 => g_R_constantAt 268 (nI p) o x w M1) (ec := id) h (s_S_constantAt h.1 hp q1 hz hu o x w).x (fun e0 h0 => by rcases hx e0 h0 with rfl | rfl <;> decide) (fun e0 N h0 hN => w2 (hx e0 h0) hN) (fun M1 e1 h1 => (s_R_constantAt (q4 M1 e1 h1).1 hp (q4 M1 e1 h1).2 o x w).y)
theorem wc_memberAt (h : Inv M e pr ps) (he : e ≤ 600) (hp : p < 2) (o w : Int32) : ∃ c M1 v K, g_W_memberAt 1 (nI p) o w 296 M = rI c M1 ∧ g_R_memberAt 268 (nI p) o w M1 = rI v K ∧ StepOk M e c M1 v K := by
  obtain ⟨hz, hu⟩ := h.z he
  obtain ⟨q, q1, q2, q3, q4⟩ := h.pick hp
  have hx : ∀ e0, membAtV q o w = .inr e0 → e0 = 1 ∨ e0 = 2 := by
    intro e0 h0
    unfold membAtV at h0
    split at h0
    · cases h0; simp
    split at h0
    · cases h0
    split at h0
    · cases h0
    split at h0
    · cases h0
    split at h0
    · cases h0
    split at h0
    · cases h0
    split at h0
    · cases h0
    · cases h0; simp
  unfold g_W_memberAt
  rw [h.rv20]
  exact ask (gR := fun M1 => g_R_memberAt 268 (nI p) o w M1) (ec := id) h (s_S_memberAt h.1 hp q1 q2 hz hu o w).x (fun e0 h0 => by rcases hx e0 h0 with rfl | rfl <;> decide) (fun e0 N h0 hN => w2 (hx e0 h0) hN) (fun M1 e1 h1 => (s_R_memberAt (q4 M1 e1 h1).1 hp (q4 M1 e1 h1).2 q2 o w).y)
theorem wc_codeAt (h : Inv M e pr ps) (he : e ≤ 600) (hp : p < 2) (o w : Int32) : ∃ c M1 v K, g_W_codeAt 1 (nI p) o w 296 M = rI c M1 ∧ g_R_codeAt 268 (nI p) o w M1 = rI v K ∧ StepOk M e c M1 v K := by
  obtain ⟨hz, hu⟩ := h.z he
  obtain ⟨q, q1, q2, q3, q4⟩ := h.pick hp
  have hx : ∀ e0, codeAtV q o w = .inr e0 → e0 = 1 := by
    intro e0 h0
    unfold codeAtV at h0
    split at h0
    · cases h0; rfl
    split at h0
    · cases h0; rfl
    split at h0
    · cases h0; rfl
    · cases h0
  unfold g_W_codeAt
  rw [h.rv20]
  exact ask (gR := fun M1 => g_R_codeAt 268 (nI p) o w M1) (ec := fun _ => 1) h (s_S_codeAt h.1 hp q1 hz hu o w).x (fun e0 _ => by decide) (fun e0 N h0 hN => by rw [hx e0 h0]; exact w1 hN) (fun M1 e1 h1 => (s_R_codeAt (q4 M1 e1 h1).1 hp (q4 M1 e1 h1).2 q2 o w).y)
end PCB
