/-! the law's loop -/
theorem l5 {L i : Nat} (hL : L ≤ 2560) (hi : i ≤ 600) : (nI L - 5 < nI (5 * i)) ↔ L < 5 * i + 5 := by
  by_cases h5 : 5 ≤ L
  · have e : nI L - 5 = nI (L - 5) := by
      have : nI L = nI (L - 5) + 5 := by rw [show (5 : Int32) = nI 5 from rfl, nI_add, show L - 5 + 5 = L by omega]
      rw [this, Int32.add_sub_cancel]
    rw [e]
    constructor
    · intro h
      rw [Int32.lt_iff_toInt_lt, nI_toInt (by omega), nI_toInt (by omega)] at h
      omega
    · intro h
      exact nI_lt (by omega) (by omega)
  · constructor
    · intro _; omega
    · intro _
      have h0 : nI L - 5 < 0 := by
        rcases (show L = 0 ∨ L = 1 ∨ L = 2 ∨ L = 3 ∨ L = 4 by omega) with rfl | rfl | rfl | rfl | rfl <;> decide
      have h1 : (0 : Int32) ≤ nI (5 * i) := nI_le (a := 0) (Nat.zero_le _) (by omega)
      rw [Int32.lt_iff_toInt_lt] at h0 ⊢
      rw [Int32.le_iff_toInt_le] at h1
      omega
section PLP
variable {L : Nat}
theorem v1 (i : Nat) : nI (5 * i) + 1 = nI (5 * i + 1) := nI_1 _
theorem v2 (i : Nat) : nI (5 * i) + 2 = nI (5 * i + 2) := by rw [show (2 : Int32) = nI 2 from rfl, nI_add]
theorem v3 (i : Nat) : nI (5 * i) + 3 = nI (5 * i + 3) := by rw [show (3 : Int32) = nI 3 from rfl, nI_add]
theorem v4 (i : Nat) : nI (5 * i) + 4 = nI (5 * i + 4) := by rw [show (4 : Int32) = nI 4 from rfl, nI_add]
theorem v5 (i : Nat) : nI (5 * i) + 5 = nI (5 * (i + 1)) := by rw [show (5 : Int32) = nI 5 from rfl, nI_add, show 5 * i + 5 = 5 * (i + 1) by omega]
theorem rdS {M : XM} {j : Nat} {F : Int32 → XP} (h : xt M 0 = (5, L)) (hz : 0 < xz M) (hj : j < L) (hL : L ≤ 2560) : aI M 0 (nI j) F = F (xi M 0 j) := aS_e hz h hj (by omega)
end PLP
