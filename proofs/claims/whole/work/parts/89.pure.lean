theorem law_pure {L : Nat} {xs : Nat → Int32} (hL : L ≤ 2560) : ∃ N, g_W_law 0 ((1, 0, fun _ => (5, L), fun a j => if a = 0 then xs j else 0, fun _ _ => none, fun _ _ => 0) : XM) = some (.inl (some (.int 1)), N) := by
  obtain ⟨M, h1, h2, h3⟩ := mk_W (L := L) (M := ((1, 0, fun _ => (5, L), fun a j => if a = 0 then xs j else 0, fun _ _ => none, fun _ _ => 0) : XM)) rfl rfl rfl
  obtain ⟨N, hN⟩ := law_loop hL 513 0 M 0 ([], []) ([], []) rfl (Nat.le_refl 0) h2 h3 FU (by decide)
  exact ⟨N, h1.trans hN⟩
