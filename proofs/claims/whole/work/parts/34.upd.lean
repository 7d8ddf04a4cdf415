/-! what the class writes into a program -/
theorem xi_eq (M : XM) (a i : Nat) (v : Int32) : xi (xpi M a i v) a i = v := by show (if a = a ∧ i = i then v else _) = v; rw [if_pos ⟨rfl, rfl⟩]
theorem xi_ne {M : XM} {a i b j : Nat} {v : Int32} (h : b ≠ a ∨ j ≠ i) : xi (xpi M a i v) b j = xi M b j := by
  show (if b = a ∧ j = i then v else _) = _
  rw [if_neg (by omega)]
theorem xi_row {M : XM} {a i b : Nat} {v : Int32} (h : b ≠ a) : xi (xpi M a i v) b = xi M b := by
  funext j
  exact xi_ne (Or.inl h)
def Upd (lo hi : Nat) (M N : XM) : Prop := xz N = xz M ∧ xu N = xu M ∧ xt N = xt M ∧ xr N = xr M ∧ xj N = xj M ∧ ∀ a, a < lo ∨ hi ≤ a → xi N a = xi M a
theorem Upd.rf {lo hi : Nat} {M : XM} : Upd lo hi M M := ⟨rfl, rfl, rfl, rfl, rfl, fun _ _ => rfl⟩
theorem Upd.pi {lo hi a i : Nat} {M N : XM} {v : Int32} (h : Upd lo hi M N) (h1 : lo ≤ a) (h2 : a < hi) : Upd lo hi M (xpi N a i v) :=
  ⟨h.1, h.2.1, h.2.2.1, h.2.2.2.1, h.2.2.2.2.1, fun b hb => (xi_row (by omega)).trans (h.2.2.2.2.2 b hb)⟩
theorem Upd.tr {lo hi : Nat} {M N K : XM} (h : Upd lo hi M N) (g : Upd lo hi N K) : Upd lo hi M K :=
  ⟨g.1.trans h.1, g.2.1.trans h.2.1, g.2.2.1.trans h.2.2.1, g.2.2.2.1.trans h.2.2.2.1, g.2.2.2.2.1.trans h.2.2.2.2.1, fun b hb => (g.2.2.2.2.2 b hb).trans (h.2.2.2.2.2 b hb)⟩
theorem Upd.wide {lo hi lo' hi' : Nat} {M N : XM} (h : Upd lo hi M N) (h1 : lo' ≤ lo) (h2 : hi ≤ hi') : Upd lo' hi' M N :=
  ⟨h.1, h.2.1, h.2.2.1, h.2.2.2.1, h.2.2.2.2.1, fun b hb => h.2.2.2.2.2 b (by omega)⟩
theorem Upd.prog {lo hi P : Nat} {M N : XM} (h : Upd lo hi M N) (hA : ProgAt M P) : ProgAt N P := by
  unfold ProgAt PoolAt MembAt at *
  rw [h.1, h.2.2.1, h.2.2.2.1]
  exact hA
theorem Upd.lay {lo hi : Nat} {M N : XM} (h : Upd lo hi M N) (hA : Lay M) : Lay N := by
  unfold Lay ProgAt PoolAt MembAt ShakAt MachAt RefAt at *
  rw [h.1, h.2.2.1, h.2.2.2.1]
  exact hA
theorem PoolIs.congr {M N : XM} {a : Nat} {cl : List CT} (h : PoolIs M a cl) (e : ∀ b, a ≤ b → b ≤ a + 3 → xi N b = xi M b) : PoolIs N a cl := by
  unfold PoolIs at *
  rw [e a (by omega) (by omega), e (a + 1) (by omega) (by omega), e (a + 2) (by omega) (by omega), e (a + 3) (by omega) (by omega)]
  exact h
theorem MembIs.congr {M N : XM} {a : Nat} {b : MB} (h : MembIs M a b) (e : ∀ b, a ≤ b → b ≤ a + 2 → xi N b = xi M b) : MembIs N a b := by
  unfold MembIs at *
  rw [e a (by omega) (by omega), e (a + 1) (by omega) (by omega), e (a + 2) (by omega) (by omega)]
  exact h
theorem RepC.congr {M N : XM} {P : Nat} {pr : PR} (h : RepC M P pr) (e : ∀ b, P ≤ b → b < P + 117 → xi N b = xi M b) : RepC N P pr := by
  obtain ⟨h1, h2, h3, h4, h5, h6⟩ := h
  refine ⟨h1, by rw [e P (by omega) (by omega)]; exact h2, h3, by rw [e P (by omega) (by omega)]; exact h4, fun c cl hc => ?_, fun m b hm => ?_⟩
  · have := (List.getElem?_eq_some_iff.mp hc).1
    exact (h5 c cl hc).congr fun b _ _ => e b (by omega) (by omega)
  · have := (List.getElem?_eq_some_iff.mp hm).1
    exact (h6 m b hm).congr fun b _ _ => e b (by omega) (by omega)
theorem RepR.congr {M N : XM} {p : Nat} {pr : PR} (h : RepR M p pr) (e : ∀ b, 269 ≤ b → b ≤ 281 → xi N b = xi M b) : RepR N p pr := by
  unfold RepR at *
  rw [e 269 (by omega) (by omega), e 270 (by omega) (by omega), e 271 (by omega) (by omega), e 272 (by omega) (by omega), e 273 (by omega) (by omega), e 274 (by omega) (by omega), e 275 (by omega) (by omega), e 276 (by omega) (by omega), e 277 (by omega) (by omega), e 278 (by omega) (by omega), e 279 (by omega) (by omega), e 280 (by omega) (by omega), e 281 (by omega) (by omega)]
  exact h
theorem snocC {α : Type} {l : List α} {x y : α} {i : Nat} (h : (l ++ [x])[i]? = some y) : (i < l.length ∧ l[i]? = some y) ∨ (i = l.length ∧ y = x) := by
  by_cases hi : i < l.length
  · rw [List.getElem?_append_left hi] at h; exact Or.inl ⟨hi, h⟩
  · rw [List.getElem?_append_right (by omega)] at h
    have h1 : i - l.length < 1 := (List.getElem?_eq_some_iff.mp h).1
    rw [show i - l.length = 0 by omega] at h
    cases h
    exact Or.inr ⟨by omega, rfl⟩
theorem setC {α : Type} {l : List α} {x y : α} {i k : Nat} (h : (l.set k x)[i]? = some y) : (i ≠ k ∧ l[i]? = some y) ∨ (i = k ∧ y = x ∧ k < l.length) := by
  by_cases hi : i = k
  · subst hi
    have hl : i < l.length := by
      have := (List.getElem?_eq_some_iff.mp h).1
      rwa [List.length_set] at this
    rw [List.getElem?_set_self hl] at h
    cases h
    exact Or.inr ⟨rfl, rfl, hl⟩
  · rw [List.getElem?_set_ne (Ne.symm hi)] at h
    exact Or.inl ⟨hi, h⟩
section PW
variable {M : XM} {P : Nat} {cl : List CT} {b : MB} {pr : PR}
theorem s_P_empty (hA : ProgAt M P) : ∃ N, g_P_empty P M = rV N ∧ RepC N P ([], []) ∧ Upd P (P + 117) M N := by
  have hA1 : ProgAt (xpi M P 2 0) P := hA
  have hz := hA.1
  have hz1 := hA1.1
  refine ⟨xpi (xpi M P 2 0) P 3 0, ?_, ⟨Nat.zero_le _, ?_, Nat.zero_le _, xi_eq _ _ _ _, fun c cl h => ?_, fun m b h => ?_⟩, (Upd.rf.pi (by omega) (by omega)).pi (by omega) (by omega)⟩
  · unfold g_P_empty
    rw [uI_e (by omega) hA.2.1, uI_e (by omega) hA1.2.1]
  · rw [xi_ne (Or.inr (by decide)), xi_eq]; rfl
  · cases h
  · cases h
theorem s_P_startClass (hA : ProgAt M P) (hR : RepC M P pr) (hn : pr.1.length < 6) : ∃ N, g_P_startClass P M = rI (nI pr.1.length) N ∧ RepC N P (pr.1 ++ [[]], pr.2) ∧ Upd P (P + 117) M N := by
  have hz := hA.1
  obtain ⟨hxc, hPa⟩ := hA.2.2.2.2.2.2.1 pr.1.length hn
  have hzp := hPa.1
  have hA1 : ProgAt (xpi M (P + 3 + 4 * pr.1.length) 3 0) P := hA
  have hA2 : ProgAt (xpi (xpi M (P + 3 + 4 * pr.1.length) 3 0) P 2 (nI (pr.1.length + 1))) P := hA
  have hz1 := hA1.1
  have hz2 := hA2.1
  have e1 : xi (xpi M (P + 3 + 4 * pr.1.length) 3 0) P 2 = nI pr.1.length := by rw [xi_ne (Or.inl (by omega))]; exact hR.2.1
  refine ⟨xpi (xpi M (P + 3 + 4 * pr.1.length) 3 0) P 2 (nI (pr.1.length + 1)), ?_, ⟨by simp; omega, by rw [xi_eq]; simp, hR.2.2.1, ?_, fun c cl hc => ?_, fun m b hm => ?_⟩, (Upd.rf.pi (by omega) (by omega)).pi (by omega) (by omega)⟩
  · unfold g_P_startClass
    rw [gR_e (by omega) hA.2.1 hA.2.2.2.2.1, gI_e (by omega) hA.2.1, hR.2.1, aR_e (by omega) hA.2.2.1 hn (by decide) hxc, uI_e (by omega) hPa.2.1, gI_e (by omega) hA1.2.1, e1, nI_1, uI_e (by omega) hA1.2.1, gI_e (by omega) hA2.2.1, xi_eq, nI_pred]
  · rw [xi_ne (Or.inr (by decide)), xi_ne (Or.inl (by omega))]; exact hR.2.2.2.1
  · rcases snocC hc with ⟨hlt, h⟩ | ⟨rfl, rfl⟩
    · exact (hR.2.2.2.2.1 c cl h).congr fun b h1 h2 => (xi_row (by omega)).trans (xi_row (by omega))
    · refine ⟨Nat.zero_le _, ?_, fun j q h => by cases h⟩
      rw [xi_ne (Or.inl (by omega)), xi_eq]; rfl
  · have := (List.getElem?_eq_some_iff.mp hm).1
    have h30 := hR.2.2.1
    exact (hR.2.2.2.2.2 m b hm).congr fun b h1 h2 => (xi_row (by omega)).trans (xi_row (by omega))
theorem s_Q_append {a : Nat} (hA : PoolAt M a) (hP : PoolIs M a cl) (hn : cl.length < 20) (k x y : Int32) : ∃ N, g_Q_append a k x y M = rI (nI cl.length) N ∧ PoolIs N a (cl ++ [(k, x, y)]) ∧ Upd a (a + 4) M N := by
  have hz := hA.1
  have hA1 : PoolAt (xpi M (a + 1) cl.length k) a := hA
  have hA2 : PoolAt (xpi (xpi M (a + 1) cl.length k) (a + 2) cl.length x) a := hA
  have hA3 : PoolAt (xpi (xpi (xpi M (a + 1) cl.length k) (a + 2) cl.length x) (a + 3) cl.length y) a := hA
  have hA4 : PoolAt (xpi (xpi (xpi (xpi M (a + 1) cl.length k) (a + 2) cl.length x) (a + 3) cl.length y) a 3 (nI (cl.length + 1))) a := hA
  have hz1 := hA1.1
  have hz2 := hA2.1
  have hz3 := hA3.1
  have hz4 := hA4.1
  have e1 : xi (xpi M (a + 1) cl.length k) a 3 = nI cl.length := by rw [xi_ne (Or.inl (by omega))]; exact hP.2.1
  have e2 : xi (xpi (xpi M (a + 1) cl.length k) (a + 2) cl.length x) a 3 = nI cl.length := by rw [xi_ne (Or.inl (by omega))]; exact e1
  have e3 : xi (xpi (xpi (xpi M (a + 1) cl.length k) (a + 2) cl.length x) (a + 3) cl.length y) a 3 = nI cl.length := by rw [xi_ne (Or.inl (by omega))]; exact e2
  refine ⟨xpi (xpi (xpi (xpi M (a + 1) cl.length k) (a + 2) cl.length x) (a + 3) cl.length y) a 3 (nI (cl.length + 1)), ?_, ⟨by simp; omega, by rw [xi_eq]; simp, fun j q hq => ?_⟩, ((((Upd.rf.pi (by omega) (by omega)).pi (by omega) (by omega)).pi (by omega) (by omega)).pi (by omega) (by omega))⟩
  · unfold g_Q_append
    rw [gR_e (by omega) hA.2.1 hA.2.2.2.2.2.1, gI_e (by omega) hA.2.1, hP.2.1, sI_e (by omega) hA.2.2.1 hn (by decide), gR_e (by omega) hA1.2.1 hA1.2.2.2.2.2.2.1, gI_e (by omega) hA1.2.1, e1, sI_e (by omega) hA1.2.2.2.1 hn (by decide),
      gR_e (by omega) hA2.2.1 hA2.2.2.2.2.2.2.2, gI_e (by omega) hA2.2.1, e2, sI_e (by omega) hA2.2.2.2.2.1 hn (by decide), gI_e (by omega) hA3.2.1, e3, nI_1, uI_e (by omega) hA3.2.1, gI_e (by omega) hA4.2.1, xi_eq, nI_pred]
  · rcases snocC hq with ⟨hlt, h⟩ | ⟨rfl, rfl⟩
    · obtain ⟨g1, g2, g3⟩ := hP.2.2 j q h
      refine ⟨?_, ?_, ?_⟩
      · rw [xi_ne (Or.inl (by omega)), xi_ne (Or.inl (by omega)), xi_ne (Or.inl (by omega)), xi_ne (Or.inr (by omega))]; exact g1
      · rw [xi_ne (Or.inl (by omega)), xi_ne (Or.inl (by omega)), xi_ne (Or.inr (by omega)), xi_ne (Or.inl (by omega))]; exact g2
      · rw [xi_ne (Or.inl (by omega)), xi_ne (Or.inr (by omega)), xi_ne (Or.inl (by omega)), xi_ne (Or.inl (by omega))]; exact g3
    · refine ⟨?_, ?_, ?_⟩
      · rw [xi_ne (Or.inl (by omega)), xi_ne (Or.inl (by omega)), xi_ne (Or.inl (by omega)), xi_eq]
      · rw [xi_ne (Or.inl (by omega)), xi_ne (Or.inl (by omega)), xi_eq]
      · rw [xi_ne (Or.inl (by omega)), xi_eq]
theorem RepC.setPool {N : XM} {cl' : List CT} {c : Nat} (hR : RepC M P pr) (hc : c < pr.1.length) (hP : PoolIs N (P + 3 + 4 * c) cl') (hU : Upd (P + 3 + 4 * c) (P + 3 + 4 * c + 4) M N) : RepC N P (pr.1.set c cl', pr.2) := by
  obtain ⟨h1, h2, h3, h4, h5, h6⟩ := hR
  have e := hU.2.2.2.2.2
  refine ⟨by simpa using h1, by rw [e P (by omega)]; simpa using h2, h3, by rw [e P (by omega)]; exact h4, fun d dl hd => ?_, fun m b hm => ?_⟩
  · rcases setC hd with ⟨hne, h⟩ | ⟨rfl, rfl, -⟩
    · exact (h5 d dl h).congr fun b g1 g2 => e b (by omega)
    · exact hP
  · have hm' : m < pr.2.length := (List.getElem?_eq_some_iff.mp hm).1
    exact (h6 m b hm).congr fun b g1 g2 => e b (by omega)
theorem RepC.setMemb {N : XM} {b' : MB} {m : Nat} (hR : RepC M P pr) (hm : m < pr.2.length) (hB : MembIs N (P + 27 + 3 * m) b') (hU : Upd (P + 27 + 3 * m) (P + 27 + 3 * m + 3) M N) : RepC N P (pr.1, pr.2.set m b') := by
  obtain ⟨h1, h2, h3, h4, h5, h6⟩ := hR
  have e := hU.2.2.2.2.2
  refine ⟨h1, by rw [e P (by omega)]; exact h2, by simpa using h3, by rw [e P (by omega)]; simpa using h4, fun d dl hd => ?_, fun n b hn => ?_⟩
  · have hd' : d < pr.1.length := (List.getElem?_eq_some_iff.mp hd).1
    exact (h5 d dl hd).congr fun b g1 g2 => e b (by omega)
  · rcases setC hn with ⟨hne, h⟩ | ⟨rfl, rfl, -⟩
    · exact (h6 n b h).congr fun b g1 g2 => e b (by omega)
    · exact hB
theorem s_B_start {a : Nat} (hBa : MembAt M a) (ow nm ar : Int32) : ∃ N, g_B_start a ow nm ar M = rV N ∧ MembIs N a (ow, nm, ar, 0, []) ∧ Upd a (a + 3) M N := by
  have hzb := hBa.1
  have hB1 : MembAt (xpi M a 0 ow) a := hBa
  have hB2 : MembAt (xpi (xpi M a 0 ow) a 1 nm) a := hBa
  have hB3 : MembAt (xpi (xpi (xpi M a 0 ow) a 1 nm) a 2 ar) a := hBa
  have hB4 : MembAt (xpi (xpi (xpi (xpi M a 0 ow) a 1 nm) a 2 ar) a 3 0) a := hBa
  have hz1 := hB1.1
  have hz2 := hB2.1
  have hz3 := hB3.1
  have hz4 := hB4.1
  refine ⟨xpi (xpi (xpi (xpi (xpi M a 0 ow) a 1 nm) a 2 ar) a 3 0) a 4 0, ?_, ⟨?_, ?_, ?_, ?_, ?_, Nat.zero_le _, fun k i h => by cases h⟩, ((((Upd.rf.pi (Nat.le_refl _) (by omega)).pi (Nat.le_refl _) (by omega)).pi (Nat.le_refl _) (by omega)).pi (Nat.le_refl _) (by omega)).pi (Nat.le_refl _) (by omega)⟩
  · unfold g_B_start
    rw [uI_e (by omega) hBa.2.1, uI_e (by omega) hB1.2.1, uI_e (by omega) hB2.2.1, uZ_e (by omega) hB3.2.1 (Or.inl rfl), uI_e (by omega) hB4.2.1]
  · rw [xi_ne (Or.inr (by decide)), xi_ne (Or.inr (by decide)), xi_ne (Or.inr (by decide)), xi_ne (Or.inr (by decide)), xi_eq]
  · rw [xi_ne (Or.inr (by decide)), xi_ne (Or.inr (by decide)), xi_ne (Or.inr (by decide)), xi_eq]
  · rw [xi_ne (Or.inr (by decide)), xi_ne (Or.inr (by decide)), xi_eq]
  · rw [xi_ne (Or.inr (by decide)), xi_eq]
  · rw [xi_eq]; rfl
theorem s_P_startMember (hA : ProgAt M P) (hR : RepC M P pr) (hn : pr.2.length < 30) (ow nm ar : Int32) : ∃ N, g_P_startMember P ow nm ar M = rI (nI pr.2.length) N ∧ RepC N P (pr.1, pr.2 ++ [(ow, nm, ar, 0, [])]) ∧ Upd P (P + 117) M N := by
  have hz := hA.1
  obtain ⟨hxc, hBa⟩ := hA.2.2.2.2.2.2.2 pr.2.length hn
  have hzb := hBa.1
  obtain ⟨M5, hst, hMi, hU⟩ := s_B_start hBa ow nm ar
  have hA5 : ProgAt M5 P := hU.prog hA
  have hA6 : ProgAt (xpi M5 P 3 (nI (pr.2.length + 1))) P := hA5
  have hz5 := hA5.1
  have hz6 := hA6.1
  have e := hU.2.2.2.2.2
  have e5 : xi M5 P 3 = nI pr.2.length := by rw [e P (by omega)]; exact hR.2.2.2.1
  refine ⟨xpi M5 P 3 (nI (pr.2.length + 1)), ?_, ⟨hR.1, ?_, by simp; omega, by rw [xi_eq]; simp, fun c cl hc => ?_, fun m b hm => ?_⟩, (hU.wide (by omega) (by omega)).pi (by omega) (by omega)⟩
  · unfold g_P_startMember
    rw [gR_e (by omega) hA.2.1 hA.2.2.2.2.2.1, gI_e (by omega) hA.2.1, hR.2.2.2.1, aR_e (by omega) hA.2.2.2.1 hn (by decide) hxc, rv_e (by omega) hBa.2.1, hst, cV_e, gI_e (by omega) hA5.2.1, e5, nI_1, uI_e (by omega) hA5.2.1, gI_e (by omega) hA6.2.1, xi_eq, nI_pred]
  · rw [xi_ne (Or.inr (by decide)), e P (by omega)]; exact hR.2.1
  · have hc' : c < pr.1.length := (List.getElem?_eq_some_iff.mp hc).1
    have h6 := hR.1
    clear hz hzb hz5 hz6 hst
    exact (hR.2.2.2.2.1 c cl hc).congr fun b h1 h2 => (xi_row (by omega)).trans (e b (by omega))
  · clear hz hzb hz5 hz6 hst
    rcases snocC hm with ⟨hlt, h⟩ | ⟨rfl, rfl⟩
    · exact (hR.2.2.2.2.2 m b h).congr fun b h1 h2 => (xi_row (by omega)).trans (e b (by omega))
    · exact hMi.congr fun b h1 h2 => xi_row (by omega)
theorem s_B_append {a : Nat} (hA : MembAt M a) (hB : MembIs M a b) (hn : b.2.2.2.2.length < 20) (w x : Int32) : ∃ N, g_B_append a w x M = rI (nI b.2.2.2.2.length) N ∧ MembIs N a (b.1, b.2.1, b.2.2.1, b.2.2.2.1, b.2.2.2.2 ++ [(w, x)]) ∧ Upd a (a + 3) M N := by
  have hz := hA.1
  obtain ⟨b1, b2, b3, b4, code⟩ := b
  obtain ⟨h1, h2, h3, h4, h5, h6, h7⟩ := hB
  simp only at *
  have hA1 : MembAt (xpi M (a + 1) code.length w) a := hA
  have hA2 : MembAt (xpi (xpi M (a + 1) code.length w) (a + 2) code.length x) a := hA
  have hA3 : MembAt (xpi (xpi (xpi M (a + 1) code.length w) (a + 2) code.length x) a 4 (nI (code.length + 1))) a := hA
  have hz1 := hA1.1
  have hz2 := hA2.1
  have hz3 := hA3.1
  have e1 : xi (xpi M (a + 1) code.length w) a 4 = nI code.length := by rw [xi_ne (Or.inl (by omega))]; exact h5
  have e2 : xi (xpi (xpi M (a + 1) code.length w) (a + 2) code.length x) a 4 = nI code.length := by rw [xi_ne (Or.inl (by omega))]; exact e1
  refine ⟨xpi (xpi (xpi M (a + 1) code.length w) (a + 2) code.length x) a 4 (nI (code.length + 1)), ?_, ⟨?_, ?_, ?_, ?_, by rw [xi_eq]; simp, by simp; omega, fun k i hk => ?_⟩, (((Upd.rf.pi (by omega) (by omega)).pi (by omega) (by omega)).pi (by omega) (by omega))⟩
  · unfold g_B_append
    rw [gR_e (by omega) hA.2.1 hA.2.2.2.2.1, gI_e (by omega) hA.2.1, h5, sI_e (by omega) hA.2.2.1 hn (by decide), gR_e (by omega) hA1.2.1 hA1.2.2.2.2.2, gI_e (by omega) hA1.2.1, e1, sI_e (by omega) hA1.2.2.2.1 hn (by decide), gI_e (by omega) hA2.2.1, e2, nI_1, uI_e (by omega) hA2.2.1, gI_e (by omega) hA3.2.1, xi_eq, nI_pred]
  · rw [xi_ne (Or.inr (by decide)), xi_ne (Or.inl (by omega)), xi_ne (Or.inl (by omega))]; exact h1
  · rw [xi_ne (Or.inr (by decide)), xi_ne (Or.inl (by omega)), xi_ne (Or.inl (by omega))]; exact h2
  · rw [xi_ne (Or.inr (by decide)), xi_ne (Or.inl (by omega)), xi_ne (Or.inl (by omega))]; exact h3
  · rw [xi_ne (Or.inr (by decide)), xi_ne (Or.inl (by omega)), xi_ne (Or.inl (by omega))]; exact h4
  · rcases snocC hk with ⟨hlt, h⟩ | ⟨rfl, rfl⟩
    · obtain ⟨g1, g2⟩ := h7 k i h
      refine ⟨?_, ?_⟩
      · rw [xi_ne (Or.inl (by omega)), xi_ne (Or.inl (by omega)), xi_ne (Or.inr (by omega))]; exact g1
      · rw [xi_ne (Or.inl (by omega)), xi_ne (Or.inr (by omega)), xi_ne (Or.inl (by omega))]; exact g2
    · refine ⟨?_, ?_⟩
      · rw [xi_ne (Or.inl (by omega)), xi_ne (Or.inl (by omega)), xi_eq]
      · rw [xi_ne (Or.inl (by omega)), xi_eq]
end PW
