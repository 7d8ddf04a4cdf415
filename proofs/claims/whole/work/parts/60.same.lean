/-! a memory that grows at its end -/
def Same (M N : XM) : Prop := xz M ≤ xz N ∧ ∀ a, a < 297 → xt N a = xt M a ∧ xr N a = xr M a ∧ xi N a = xi M a
theorem Same.rf {M : XM} : Same M M := ⟨Nat.le_refl _, fun _ _ => ⟨rfl, rfl, rfl⟩⟩
theorem Same.tr {M N K : XM} (h : Same M N) (g : Same N K) : Same M K :=
  ⟨Nat.le_trans h.1 g.1, fun a ha => ⟨(g.2 a ha).1.trans (h.2 a ha).1, (g.2 a ha).2.1.trans (h.2 a ha).2.1, (g.2 a ha).2.2.trans (h.2 a ha).2.2⟩⟩
theorem Same.nw {M : XM} {k n u : Nat} (h : 297 ≤ xz M) : Same M (xnw M k n u) := by
  refine ⟨Nat.le_succ _, fun a ha => ⟨?_, ?_, ?_⟩⟩
  · show (if a = xz M then _ else _) = _
    rw [if_neg (by omega)]
  · funext j
    show (if a = xz M then _ else _) = _
    rw [if_neg (by omega)]
  · funext j
    show (if a = xz M then _ else _) = _
    rw [if_neg (by omega)]
theorem Same.prog {M N : XM} {P : Nat} (s : Same M N) (hA : ProgAt M P) (hP : P + 117 ≤ 297) : ProgAt N P := by
  have t : ∀ a, a < 297 → xt N a = xt M a := fun a ha => (s.2 a ha).1
  have r : ∀ a j, a < 297 → xr N a j = xr M a j := fun a j ha => by rw [(s.2 a ha).2.1]
  have hz := s.1
  obtain ⟨a1, a2, a3, a4, a5, a6, a7, a8⟩ := hA
  refine ⟨by omega, by rw [t _ (by omega)]; exact a2, by rw [t _ (by omega)]; exact a3, by rw [t _ (by omega)]; exact a4, by rw [r _ _ (by omega)]; exact a5, by rw [r _ _ (by omega)]; exact a6, fun c hc => ?_, fun m hm => ?_⟩
  · obtain ⟨b1, b2, b3, b4, b5, b6, b7, b8, b9⟩ := a7 c hc
    exact ⟨by rw [r _ _ (by omega)]; exact b1, by omega, by rw [t _ (by omega)]; exact b3, by rw [t _ (by omega)]; exact b4, by rw [t _ (by omega)]; exact b5, by rw [t _ (by omega)]; exact b6, by rw [r _ _ (by omega)]; exact b7, by rw [r _ _ (by omega)]; exact b8, by rw [r _ _ (by omega)]; exact b9⟩
  · obtain ⟨b1, b2, b3, b4, b5, b6, b7⟩ := a8 m hm
    exact ⟨by rw [r _ _ (by omega)]; exact b1, by omega, by rw [t _ (by omega)]; exact b3, by rw [t _ (by omega)]; exact b4, by rw [t _ (by omega)]; exact b5, by rw [r _ _ (by omega)]; exact b6, by rw [r _ _ (by omega)]; exact b7⟩
theorem refTab_lt : ∀ q ∈ refTab, q.2.1 < 297 := by decide
theorem Same.lay {M N : XM} (s : Same M N) (hL : Lay M) : Lay N := by
  have t : ∀ a, a < 297 → xt N a = xt M a := fun a ha => (s.2 a ha).1
  have r : ∀ a j, a < 297 → xr N a j = xr M a j := fun a j ha => by rw [(s.2 a ha).2.1]
  have hz := s.1
  obtain ⟨l0, l1, l2, l3, l4, l5, l6, p1, p2, hS, hE, hR⟩ := hL
  refine ⟨by omega, by rw [t _ (by omega)]; exact l1, by rw [r _ _ (by omega)]; exact l2, by rw [r _ _ (by omega)]; exact l3, by rw [r _ _ (by omega)]; exact l4, by rw [r _ _ (by omega)]; exact l5, by rw [t _ (by omega)]; exact l6, s.prog p1 (by omega), s.prog p2 (by omega), ?_, ?_, ?_⟩
  · obtain ⟨a1, a2, a3, a4, a5, a6, a7, a8, b1, b2, b3, b4, b5, b6, b7⟩ := hS
    unfold ShakAt
    rw [t _ (by omega), t _ (by omega), t _ (by omega), t _ (by omega), t _ (by omega), t _ (by omega), t _ (by omega), r _ 0 (by omega), r _ 1 (by omega), r _ 2 (by omega), r _ 3 (by omega), r _ 4 (by omega), r _ 5 (by omega)]
    exact ⟨by omega, a2, a3, a4, a5, a6, a7, a8, b1, b2, b3, b4, b5, b6, fun c hc => ⟨by rw [r _ _ (by omega)]; exact (b7 c hc).1, by rw [t _ (by omega)]; exact (b7 c hc).2⟩⟩
  · obtain ⟨a1, a2, a3, a4, a5, a6, a7⟩ := hE
    unfold MachAt
    rw [t _ (by omega), t _ (by omega), t _ (by omega), r _ 0 (by omega), r _ 1 (by omega)]
    exact ⟨by omega, a2, a3, a4, a5, a6, fun f hf => ⟨by rw [r _ _ (by omega)]; exact (a7 f hf).1, by rw [t _ (by omega)]; exact (a7 f hf).2.1, by rw [t _ (by omega)]; exact (a7 f hf).2.2.1, by rw [r _ _ (by omega)]; exact (a7 f hf).2.2.2⟩⟩
  · obtain ⟨a1, a2, a3⟩ := hR
    refine ⟨by omega, by rw [t _ (by omega)]; exact a2, fun q hq => ⟨by rw [r _ _ (by omega)]; exact (a3 q hq).1, by rw [t _ (refTab_lt q hq)]; exact (a3 q hq).2⟩⟩
/-- what holds before and after every call -/
def Inv (M : XM) (e : Nat) (pr ps : PR) : Prop := Lay M ∧ xz M = 297 + e ∧ xu M ≤ 100000 + 6 * e ∧ RepC M 2 pr ∧ RepR M 0 pr ∧ WF pr ∧ RepC M 119 ps ∧ RepR M 1 ps ∧ WF ps ∧ Clo ps ∧ ∀ m, m < 30 → xi M 237 m = xi M 282 m
theorem Inv.same {M N : XM} {e e' : Nat} {pr ps : PR} (h : Inv M e pr ps) (s : Same M N) (hz : xz N = 297 + e') (hu : xu N ≤ 100000 + 6 * e') : Inv N e' pr ps := by
  have i : ∀ a, a < 297 → xi N a = xi M a := fun a ha => (s.2 a ha).2.2
  obtain ⟨h1, h2, h3, h4, h5, h6, h7, h8, h9, h10, h11⟩ := h
  exact ⟨s.lay h1, hz, hu, h4.congr fun b _ _ => i b (by omega), h5.congr fun b _ _ => i b (by omega), h6, h7.congr fun b _ _ => i b (by omega), h8.congr fun b _ _ => i b (by omega), h9, h10, fun m hm => by rw [i _ (by omega), i _ (by omega)]; exact h11 m hm⟩
