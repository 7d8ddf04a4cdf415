/-! asking and running keep the invariant -/
def OkYe (M : XM) (g : XP) (ec : Nat → Nat) (r : AR) : Prop := match r with
  | .inl v => ∃ N, g = rI v N ∧ UpdS M N ∧ xi N 268 0 = 0
  | .inr e => ∃ v N, g = rI v N ∧ UpdS M N ∧ xi N 268 0 = nI (ec e)
section PAK
variable {M : XM} {e : Nat} {pr ps : PR}
theorem OkA.x {g : XP} {r : AR} (h : OkA M g r) : OkX M g r := by
  unfold OkA at h
  unfold OkX
  split at h
  · exact ⟨M, h, UpdE.rf⟩
  · exact ⟨M, h, UpdE.rf⟩
theorem OkB.y {g : XP} {ec : Nat → Nat} {r : AR} (h : OkB M g ec r) : OkYe M g ec r := by
  unfold OkB at h
  unfold OkYe
  split at h
  · exact ⟨_, h, UpdS.rf.pi (by omega), xi_eq _ _ _ _⟩
  · obtain ⟨v, h⟩ := h
    exact ⟨v, _, h, UpdS.rf.pi (by omega), xi_eq _ _ _ _⟩
theorem OkY.y {g : XP} {r : AR} (h : OkY M g r) : OkYe M g ec5 r := by
  unfold OkY at h
  unfold OkYe
  split at h
  · exact h
  · exact h
theorem Inv.upE {N : XM} (h : Inv M e pr ps) (u : UpdE M N) : Inv N e pr ps := by
  obtain ⟨a1, a2, a3, a4, a5, a6, a7, a8, a9, a10, a11⟩ := h
  have i := u.2.2.2.2.2
  exact ⟨u.lay a1, by rw [u.1]; exact a2, by rw [u.2.1]; exact a3, a4.congr fun b _ _ => i b (by omega), a5.congr fun b _ _ => i b (by omega), a6, a7.congr fun b _ _ => i b (by omega), a8.congr fun b _ _ => i b (by omega), a9, a10, fun m hm => by rw [i _ (by omega), i _ (by omega)]; exact a11 m hm⟩
theorem UpdS.lay {N : XM} (h : UpdS M N) (hA : Lay M) : Lay N := by
  unfold Lay ProgAt PoolAt MembAt ShakAt MachAt RefAt at *
  rw [h.1, h.2.2.1, h.2.2.2.1]
  exact hA
theorem Inv.upS {N : XM} (h : Inv M e pr ps) (u : UpdS M N) : Inv N e pr ps := by
  obtain ⟨a1, a2, a3, a4, a5, a6, a7, a8, a9, a10, a11⟩ := h
  have i := u.2.2.2.2.2
  exact ⟨u.lay a1, by rw [u.1]; exact a2, by rw [u.2.1]; exact a3, a4.congr fun b _ _ => i b (by omega) (by omega), a5.congr fun b _ _ => i b (by omega) (by omega), a6, a7.congr fun b _ _ => i b (by omega) (by omega), a8.congr fun b _ _ => i b (by omega) (by omega), a9, a10, fun m hm => by rw [i _ (by omega) (by omega), i _ (by omega) (by omega)]; exact a11 m hm⟩
theorem Inv.pj (h : Inv M e pr ps) (w : Int64) : Inv (xpj M 296 0 w) e pr ps := h
theorem ask {r : AR} {gS : XP} {gR : XM → XP} {ec : Nat → Nat} {G : Nat → XM → XP} (h : Inv M e pr ps) (hC : OkX M gS r) (hec : ∀ e0, r = .inr e0 → 0 < ec e0 ∧ ec e0 < 10)
    (hG : ∀ e0 N, r = .inr e0 → xz N = xz M → hI (some (.inr (xz M), xnw N (40 + e0) 0 6)) (fun t3 M2 => sJ M2 296 0 ((t3).toInt64) fun M4 => some (.inl (some (.int 0)), M4)) G = rI (nI (ec e0)) (xnw N (40 + e0) 0 6)) (hR : ∀ M1 e1, Inv M1 e1 pr ps → OkYe M1 (gR M1) ec r) :
    ∃ k M1 v K, hI gS (fun t3 M2 => sJ M2 296 0 ((t3).toInt64) fun M4 => some (.inl (some (.int 0)), M4)) G = rI k M1 ∧ gR M1 = rI v K ∧ StepOk M e k M1 v K := by
  have hz := h.1.1
  cases r with
  | inl v =>
    obtain ⟨N, n1, n2⟩ := hC
    have hN := h.upE n2
    have h1 := hN.pj v.toInt64
    obtain ⟨K, k1, k2, k3⟩ := hR _ _ h1
    have hA1 : RefAt (xpj N 296 0 v.toInt64) := h1.1.2.2.2.2.2.2.2.2.2.2.2
    have s1 : Scr M (xpj N 296 0 v.toInt64) := ⟨by show xt N 0 = _; rw [n2.2.2.1], n2.2.2.2.2.2 0 (by omega), by show 297 ≤ xz N; rw [n2.1]; exact hz⟩
    refine ⟨0, _, v, K, by rw [n1]; exact wok hN.1, k1, s1, hA1, ⟨?_, ?_, ?_⟩, k3, fun _ => ?_, e, pr, ps, by omega, h1.upS k2⟩
    · rw [k2.2.2.1]; exact s1.1
    · rw [k2.2.2.2.2.2 0 (by omega) (by omega)]; exact s1.2.1
    · rw [k2.1]; exact s1.2.2
    · rw [k2.2.2.2.2.1, xj_eq]
  | inr e0 =>
    obtain ⟨h1, h2⟩ := hec e0 rfl
    obtain ⟨N, n1, n2⟩ := hC
    have hN := h.upE n2
    have hs : Same N (xnw N (40 + e0) 0 6) := Same.nw hN.1.1
    have hI1 : Inv (xnw N (40 + e0) 0 6) (e + 1) pr ps := hN.same hs (by show xz N + 1 = _; rw [hN.2.1]; omega) (by show xu N + 6 ≤ _; have := hN.2.2.1; omega)
    obtain ⟨v, K, k1, k2, k3⟩ := hR _ _ hI1
    have s1 : Scr M (xnw N (40 + e0) 0 6) := ⟨by rw [(hs.2 0 (by omega)).1, n2.2.2.1], by rw [(hs.2 0 (by omega)).2.2]; exact n2.2.2.2.2.2 0 (by omega), hI1.1.1⟩
    refine ⟨nI (ec e0), _, v, K, by rw [n1]; exact hG e0 N rfl n2.1, k1, s1, hI1.1.2.2.2.2.2.2.2.2.2.2.2, ⟨?_, ?_, ?_⟩, k3, fun e => ?_, e + 1, pr, ps, by omega, hI1.upS k2⟩
    · rw [k2.2.2.1]; exact s1.1
    · rw [k2.2.2.2.2.2 0 (by omega) (by omega)]; exact s1.2.1
    · rw [k2.1]; exact s1.2.2
    · have := (nI_eq (b := 0) (by omega) (by omega)).mp e
      omega
end PAK
