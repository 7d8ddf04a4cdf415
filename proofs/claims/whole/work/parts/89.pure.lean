theorem law_pure {L : Nat} {xs : Nat → Int32} (hL : L ≤ 2560) : ∃ N, g_W_law 0 ((1, 0, fun _ => (5, L), fun a j => if a = 0 then xs j else 0, fun _ _ => none, fun _ _ => 0) : XM) = some (.inl (some (.int 1)), N) := by
  sorry
