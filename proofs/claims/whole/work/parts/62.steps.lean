/-! a call of both keeps the invariant -/
def Scr (M N : XM) : Prop := xt N 0 = xt M 0 ∧ xi N 0 = xi M 0 ∧ 297 ≤ xz N
def StepOk (M : XM) (e : Nat) (k : Int32) (M1 : XM) (v : Int32) (K : XM) : Prop := Scr M M1 ∧ RefAt M1 ∧ Scr M K ∧ xi K 268 0 = k ∧ (k = 0 → xj K 296 0 = v.toInt64) ∧ ∃ e' pr' ps', e' ≤ e + 1 ∧ Inv K e' pr' ps'
theorem xj_eq (M : XM) (a i : Nat) (v : Int64) : xj (xpj M a i v) a i = v := by show (if a = a ∧ i = i then v else _) = v; rw [if_pos ⟨rfl, rfl⟩]
section PSP
variable {M : XM} {e : Nat} {pr ps : PR}
theorem Inv.up {N : XM} {pr' : PR} (h : Inv M e pr ps) (u : Upd 268 282 M N) (h0 : RepR N 0 pr') (h1 : RepR N 1 ps) (hc : RepC M 2 pr') (hw : WF pr') : Inv N e pr' ps := by
  obtain ⟨a1, a2, a3, a4, a5, a6, a7, a8, a9, a10, a11⟩ := h
  have i := u.2.2.2.2.2
  exact ⟨u.lay a1, by rw [u.1]; exact a2, by rw [u.2.1]; exact a3, hc.congr fun b _ _ => i b (by omega), h0, hw, a7.congr fun b _ _ => i b (by omega), h1, a9, a10, fun m hm => by rw [i _ (by omega), i _ (by omega)]; exact a11 m hm⟩
theorem bld {r : OR} {gS : XP} {gR : XM → XP} {ec : Nat → Nat} {G : Nat → XM → XP} (h : Inv M e pr ps) (hC : OkC M gS r) (hW : OkW r) (hec : ∀ e0, r = .inr e0 → 0 < ec e0 ∧ ec e0 < 10)
    (hG : ∀ e0, r = .inr e0 → hI (some (.inr (xz M), xnw M (40 + e0) 0 6)) (fun t3 M2 => sJ M2 296 0 ((t3).toInt64) fun M4 => some (.inl (some (.int 0)), M4)) G = rI (nI (ec e0)) (xnw M (40 + e0) 0 6)) (hR : ∀ M1, RefAt M1 → RepR M1 0 pr → OkR M1 (gR M1) ec r) :
    ∃ k M1 v K, hI gS (fun t3 M2 => sJ M2 296 0 ((t3).toInt64) fun M4 => some (.inl (some (.int 0)), M4)) G = rI k M1 ∧ gR M1 = rI v K ∧ StepOk M e k M1 v K := by
  obtain ⟨a1, a2, a3, a4, a5, a6, a7, a8, a9, a10, a11⟩ := id h
  have hz := a1.1
  cases r with
  | inl q =>
    obtain ⟨v, pr'⟩ := q
    obtain ⟨N, n1, n2, n3⟩ := hC
    have hLN := n3.lay a1
    have i := n3.2.2.2.2.2
    have hA1 : RefAt (xpj N 296 0 v.toInt64) := hLN.2.2.2.2.2.2.2.2.2.2.2
    have hR1 : RepR (xpj N 296 0 v.toInt64) 0 pr := a5.congr fun b _ _ => i b (by omega)
    obtain ⟨K, k1, k2, k3, k4, k5⟩ := hR _ hA1 hR1
    have hzN : xz N = xz M := n3.1
    have hINV : Inv (xpj N 296 0 v.toInt64) e pr ps → False ∨ True := fun _ => Or.inr trivial
    refine ⟨0, _, v, K, by rw [n1]; exact wok hLN, k1, ⟨by show xt N 0 = _; rw [n3.2.2.1], by show xi N 0 = _; exact i 0 (by omega), by show 297 ≤ xz N; omega⟩, hA1, ⟨?_, ?_, ?_⟩, k2, fun _ => ?_, e, pr', ps, by omega, ?_⟩
    · rw [k5.2.2.1]; show xt N 0 = _; rw [n3.2.2.1]
    · rw [k5.2.2.2.2.2 0 (by omega)]; exact i 0 (by omega)
    · rw [k5.1]; show 297 ≤ xz N; omega
    · rw [k5.2.2.2.2.1, xj_eq]
    · have j := k5.2.2.2.2.2
      refine ⟨k5.lay (hLN.pj _ _ _), by rw [k5.1]; show xz N = _; omega, by rw [k5.2.1]; show xu N ≤ _; rw [n3.2.1]; exact a3, n2.congr fun b _ _ => (j b (by omega)).trans rfl, k3, hW, a7.congr fun b _ _ => (j b (by omega)).trans (i b (by omega)), k4 ps (a8.congr fun b _ _ => i b (by omega)), a9, a10, fun m hm => ?_⟩
      rw [j _ (by omega), j _ (by omega)]
      show xi N 237 m = xi N 282 m
      rw [i _ (by omega), i _ (by omega)]
      exact a11 m hm
  | inr e0 =>
    obtain ⟨h1, h2⟩ := hec e0 rfl
    have hs : Same M (xnw M (40 + e0) 0 6) := Same.nw hz
    have hI1 : Inv (xnw M (40 + e0) 0 6) (e + 1) pr ps := h.same hs (by show xz M + 1 = _; omega) (by show xu M + 6 ≤ _; omega)
    obtain ⟨v, K, k1, k2, k3⟩ := hR _ hI1.1.2.2.2.2.2.2.2.2.2.2.2 hI1.2.2.2.2.1
    have j := k3.2.2.2.2.2
    refine ⟨nI (ec e0), _, v, K, by rw [show gS = _ from hC]; exact hG e0 rfl, k1, ⟨(hs.2 0 (by omega)).1, (hs.2 0 (by omega)).2.2, hI1.1.1⟩, hI1.1.2.2.2.2.2.2.2.2.2.2.2, ⟨?_, ?_, ?_⟩, k2, fun e => ?_, e + 1, pr, ps, by omega, ?_⟩
    · rw [k3.2.2.1]; exact (hs.2 0 (by omega)).1
    · rw [j 0 (by omega)]; exact (hs.2 0 (by omega)).2.2
    · rw [k3.1]; exact hI1.1.1
    · have := (nI_eq (b := 0) (by omega) (by omega)).mp e
      omega
    · exact hI1.up (k3.wide (by omega) (by omega)) (hI1.2.2.2.2.1.congr fun b _ _ => j b (by omega)) (hI1.2.2.2.2.2.2.2.1.congr fun b _ _ => j b (by omega)) hI1.2.2.2.1 hI1.2.2.2.2.2.1
end PSP
