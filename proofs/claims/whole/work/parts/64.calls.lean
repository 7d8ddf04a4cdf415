/-! each call of the law -/
section PCA
variable {M : XM} {e : Nat} {pr ps : PR}
theorem Inv.z (h : Inv M e pr ps) (he : e ≤ 600) : xz M < ZM ∧ xu M + 6 ≤ UM := by
  have h1 := h.2.1
  have h2 := h.2.2.1
  unfold ZM UM
  omega
theorem Inv.rv20 (h : Inv M e pr ps) {g : XP} : rv M 20 1 g = g := by
  have hz := h.1.1
  exact rv_e (by omega) h.1.2.1
theorem wc_add (h : Inv M e pr ps) (he : e ≤ 600) : ∃ k M1 v K, g_W_add 1 296 M = rI k M1 ∧ g_R_add 268 M1 = rI v K ∧ StepOk M e k M1 v K := by
  obtain ⟨hz, hu⟩ := h.z he
  have hx : ∀ e0, addV pr = .inr e0 → e0 = 0 := by
    intro e0 h0
    unfold addV at h0
    split at h0
    · cases h0
    · cases h0; rfl
  unfold g_W_add
  rw [h.rv20]
  exact bld (gR := fun M1 => g_R_add 268 M1) h (s_S_add h.1 h.2.2.2.1 hz hu) (WF.add h.2.2.2.2.2.1) (fun e0 _ => by simp) (fun e0 h0 => by rw [hx e0 h0]; exact w1 rfl) (fun M1 hA hR => s_R_add hA hR)
theorem wc_constant (h : Inv M e pr ps) (he : e ≤ 600) (o k a b : Int32) : ∃ c M1 v K, g_W_constant 1 o k a b 296 M = rI c M1 ∧ g_R_constant 268 o k a b M1 = rI v K ∧ StepOk M e c M1 v K := by
  obtain ⟨hz, hu⟩ := h.z he
  have hx : ∀ e0, constV pr o k a b = .inr e0 → e0 = 0 ∨ e0 = 1 ∨ e0 = 2 := by
    intro e0 h0
    unfold constV at h0
    split at h0
    · cases h0; simp
    · split at h0
      · split at h0
        · cases h0
        · cases h0; simp
      · cases h0; simp
  unfold g_W_constant
  rw [h.rv20]
  exact bld (gR := fun M1 => g_R_constant 268 o k a b M1) (ec := ec3) h (s_S_constant h.1 h.2.2.2.1 hz hu o k a b) (WF.const h.2.2.2.2.2.1 h.2.2.2.1.1 o k a b) (fun e0 h0 => by rcases hx e0 h0 with rfl | rfl | rfl <;> decide) (fun e0 h0 => w3 (hx e0 h0) rfl) (fun M1 hA hR => s_R_constant hA hR o k a b)
theorem wc_member (h : Inv M e pr ps) (he : e ≤ 600) (o n a : Int32) : ∃ c M1 v K, g_W_member 1 o n a 296 M = rI c M1 ∧ g_R_member 268 o n a M1 = rI v K ∧ StepOk M e c M1 v K := by
  obtain ⟨hz, hu⟩ := h.z he
  have hx : ∀ e0, membV pr o n a = .inr e0 → e0 = 0 ∨ e0 = 1 ∨ e0 = 2 := by
    intro e0 h0
    unfold membV at h0
    split at h0
    · cases h0; simp
    · split at h0
      · split at h0
        · cases h0
        · cases h0; simp
      · cases h0; simp
  unfold g_W_member
  rw [h.rv20]
  exact bld (gR := fun M1 => g_R_member 268 o n a M1) (ec := ec3) h (s_S_member h.1 h.2.2.2.1 h.2.2.2.2.2.1 hz hu o n a) (WF.memb h.2.2.2.2.2.1 o n a) (fun e0 h0 => by rcases hx e0 h0 with rfl | rfl | rfl <;> decide) (fun e0 h0 => w3 (hx e0 h0) rfl) (fun M1 hA hR => s_R_member hA hR h.2.2.2.2.2.1 o n a)
theorem wc_code (h : Inv M e pr ps) (he : e ≤ 600) (o n a : Int32) : ∃ c M1 v K, g_W_code 1 o n a 296 M = rI c M1 ∧ g_R_code 268 o n a M1 = rI v K ∧ StepOk M e c M1 v K := by
  obtain ⟨hz, hu⟩ := h.z he
  have hx : ∀ e0, codeV pr o n a = .inr e0 → e0 = 0 ∨ e0 = 1 ∨ e0 = 2 := by
    intro e0 h0
    unfold codeV at h0
    split at h0
    · cases h0; simp
    · split at h0
      · cases h0; simp
      · split at h0
        · cases h0; simp
        · split at h0
          · cases h0
          · cases h0; simp
  unfold g_W_code
  rw [h.rv20]
  exact bld (gR := fun M1 => g_R_code 268 o n a M1) (ec := ec3) h (s_S_code h.1 h.2.2.2.1 hz hu o n a) (WF.code h.2.2.2.2.2.1 o n a) (fun e0 h0 => by rcases hx e0 h0 with rfl | rfl | rfl <;> decide) (fun e0 h0 => w3 (hx e0 h0) rfl) (fun M1 hA hR => s_R_code hA hR h.2.2.2.2.2.1 o n a)
end PCA
