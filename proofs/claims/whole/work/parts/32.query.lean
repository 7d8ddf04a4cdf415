/-! the class's questions to a program -/
abbrev rI (v : Int32) (M : XM) : XP := some (.inl (some (.int v)), M)
def bI (b : Bool) : Int32 := match b with
  | true => 1
  | false => 0
theorem bI_0 {b : Bool} : bI b = 0 ↔ b = false := by cases b <;> decide
theorem bI_t {b : Bool} : ¬ bI b = 0 ↔ b = true := by cases b <;> decide
theorem bI_inj {a b : Bool} : bI a = bI b ↔ a = b := by cases a <;> cases b <;> decide
theorem bI_some {α : Type} {q : α} : ¬ bI (some q).isSome = 0 := bI_t.mpr rfl
theorem bI_01 (b : Bool) : bI b = 0 ∨ bI b = 1 := by cases b <;> decide
abbrev rB (b : Bool) (M : XM) : XP := some (.inl (some (.int (bI b))), M)
abbrev rV (M : XM) : XP := some (.inl none, M)
theorem z0_e {M : XM} : z01 0 (some (.inl (some (.int 0)), M)) = rI 0 M := z01_e (Or.inl rfl)
theorem z1_e {M : XM} : z01 1 (some (.inl (some (.int 1)), M)) = rI 1 M := z01_e (Or.inr rfl)
theorem zB_e {M : XM} {b : Bool} : z01 (bI b) (some (.inl (some (.int (bI b))), M)) = rB b M := z01_e (bI_01 b)
section PQ
variable {M : XM} {a P : Nat} {cl : List CT} {b : MB} {pr : PR}
theorem s_Q_has (hA : PoolAt M a) (hP : PoolIs M a cl) (x : Int32) : g_Q_has a x M = rB (lk cl x).isSome M := by
  have hl := hP.1
  unfold g_Q_has
  rcases lk_cases cl x (by omega) with ⟨h, hx⟩ | ⟨j, q, rfl, hj, hq, h⟩
  · rw [h]
    by_cases hx0 : x < 0
    · rw [if_pos hx0, z0_e]; rfl
    · rw [if_neg hx0, gI_e (by have := hA.1; omega) hA.2.1, hP.2.1, if_pos (hx.resolve_left hx0), z0_e]; rfl
  · rw [h, if_neg (nI_pos (by omega)), gI_e (by have := hA.1; omega) hA.2.1, hP.2.1, if_neg (nI_ge hj (by omega)), z1_e]; rfl
theorem s_Q_holds (hA : PoolAt M a) (hP : PoolIs M a cl) (x k : Int32) : g_Q_holds a x k M = rB (holdsV cl x k) M := by
  have hl := hP.1
  have hz := hA.1
  unfold g_Q_holds
  rw [rv_e (by omega) hA.2.1, s_Q_has hA hP, cI_e]
  unfold holdsV
  rcases lk_cases cl x (by omega) with ⟨h, hx⟩ | ⟨j, q, rfl, hj, hq, h⟩
  · rw [h, if_pos (by rfl), z0_e]; rfl
  · rw [h, if_neg bI_some, gR_e (by omega) hA.2.1 hA.2.2.2.2.2.1, aI_e (by omega) hA.2.2.1 (by omega) (by decide), (hP.2.2 j q hq).1]
    by_cases hk : q.1 = k
    · rw [if_neg (fun h => h hk), z1_e]; simp [hk, bI]
    · rw [if_pos hk, z0_e]; simp [hk, bI]
theorem s_B_isField (hA : MembAt M a) (hB : MembIs M a b) : g_B_isField a M = rB (isF b) M := by
  have hz := hA.1
  unfold g_B_isField isF
  rw [gI_e (by omega) hA.2.1, hB.2.2.1]
  by_cases h : b.2.2.1 = -1
  · simp [h, z01, bI]
  · simp [h, z01, bI]
theorem s_hasTwo (x : Int32) : g_S_hasTwoPlaces x M = rB (decide (x = 3 ∨ x = 4)) M := by
  unfold g_S_hasTwoPlaces
  by_cases h3 : x = 3
  · simp [h3, z01, bI]
  · by_cases h4 : x = 4
    · simp [h4, z01, bI]
    · simp [h3, h4, z01, bI]
/-- a pool of the program -/
theorem RepC.pool (hA : ProgAt M P) (hR : RepC M P pr) {c : Nat} (h : pr.1[c]? = some cl) : c < 6 ∧ xr M (P + 1) c = some (P + 3 + 4 * c) ∧ PoolAt M (P + 3 + 4 * c) ∧ PoolIs M (P + 3 + 4 * c) cl := by
  have hc : c < pr.1.length := (List.getElem?_eq_some_iff.mp h).1
  have h6 := hR.1
  have := hA.2.2.2.2.2.2.1 c (by omega)
  exact ⟨by omega, this.1, this.2, hR.2.2.2.2.1 c cl h⟩
theorem RepC.memb (hA : ProgAt M P) (hR : RepC M P pr) {m : Nat} (h : pr.2[m]? = some b) : m < 30 ∧ xr M (P + 2) m = some (P + 27 + 3 * m) ∧ MembAt M (P + 27 + 3 * m) ∧ MembIs M (P + 27 + 3 * m) b := by
  have hc : m < pr.2.length := (List.getElem?_eq_some_iff.mp h).1
  have h6 := hR.2.2.1
  have := hA.2.2.2.2.2.2.2 m (by omega)
  exact ⟨by omega, this.1, this.2, hR.2.2.2.2.2 m b h⟩
theorem s_P_nameOf (hA : ProgAt M P) (hR : RepC M P pr) (hW : WF pr) {m : Nat} (hm : pr.2[m]? = some b) : g_P_nameOf P (nI m) M = rI (nameV pr b) M := by
  have hz := hA.1
  obtain ⟨hm30, hxr, hMa, hMi⟩ := hR.memb hA hm
  obtain ⟨⟨cl, q, h1, h2, -⟩, -⟩ := hW.2 b (List.mem_of_getElem? hm)
  have hl1 : pr.1.length < 2 ^ 31 := by have := hR.1; omega
  obtain ⟨c, hc, hclt, hcl⟩ := lk_some hl1 h1
  obtain ⟨hc6, hxc, hPa, hPi⟩ := hR.pool hA hcl
  have hl2 := hPi.1
  obtain ⟨j, hj, hjlt, hq⟩ := lk_some (by omega) h2
  have hza := hMa.1
  have hzp := hPa.1
  have hn : nameV pr b = q.2.1 := by unfold nameV firstV; rw [h1]; simp only; rw [h2]
  unfold g_P_nameOf
  rw [gR_e (by omega) hA.2.1 hA.2.2.2.2.2.1, aR_e (by omega) hA.2.2.2.1 hm30 (by decide) hxr, gR_e (by omega) hA.2.1 hA.2.2.2.2.1, gI_e (by omega) hMa.2.1, hMi.1, hc,
    aR_e (by omega) hA.2.2.1 hc6 (by decide) hxc, gR_e (by omega) hPa.2.1 hPa.2.2.2.2.2.2.1, gI_e (by omega) hMa.2.1, hMi.2.1, hj, aI_e (by omega) hPa.2.2.2.1 (by omega) (by decide), (hPi.2.2 j q hq).2.1, hn]
theorem dropC {α : Type} {l t : List α} {x : α} {i : Nat} (h : l.drop i = x :: t) : l[i]? = some x ∧ l.drop (i + 1) = t ∧ i < l.length := by
  have h1 : (l.drop i)[0]? = some x := by rw [h]; rfl
  rw [List.getElem?_drop] at h1
  refine ⟨by simpa using h1, ?_, (List.getElem?_eq_some_iff.mp h1).1⟩
  rw [← List.drop_drop, h]; rfl
theorem dropN {α : Type} {l : List α} {i : Nat} (h : l.drop i = []) (hi : i ≤ l.length) : i = l.length := by
  have := List.drop_eq_nil_iff.mp h
  omega
theorem s_P_find_l (hA : ProgAt M P) (hR : RepC M P pr) (hW : WF pr) (ow nm : Int32) (fl : Bool) : ∀ (t : List MB) (i : Nat), i ≤ pr.2.length → pr.2.drop i = t → ∀ n, t.length < n → g_P_find_3 n P ow nm (bI fl) (nI i) M = rI (fnd (findP pr ow nm fl) t i) M := by
  have hz := hA.1
  have h30 := hR.2.2.1
  intro t
  induction t with
  | nil =>
    intro i hl hi n hn
    obtain ⟨n, rfl⟩ : ∃ k, n = k + 1 := ⟨n - 1, by simp at hn; omega⟩
    rw [g_P_find_3, gI_e (by omega) hA.2.1, hR.2.2.2.1, dropN hi hl, if_pos (nI_le (Nat.le_refl _) (by omega))]
    rfl
  | cons b t ih =>
    intro i hl hi n hn
    obtain ⟨n, rfl⟩ : ∃ k, n = k + 1 := ⟨n - 1, by simp at hn; omega⟩
    obtain ⟨hb, ht, hlt⟩ := dropC hi
    obtain ⟨hm30, hxr, hMa, hMi⟩ := hR.memb hA hb
    have hza := hMa.1
    have hrec : g_P_find_3 n P ow nm (bI fl) (nI i + 1) M = rI (fnd (findP pr ow nm fl) t (i + 1)) M := by
      rw [nI_1]; exact ih (i + 1) hlt ht n (by simp at hn; omega)
    rw [g_P_find_3, gI_e (by omega) hA.2.1, hR.2.2.2.1, if_neg (nI_ge hlt (by omega)), gR_e (by omega) hA.2.1 hA.2.2.2.2.2.1, aR_e (by omega) hA.2.2.2.1 hm30 (by decide) hxr, gI_e (by omega) hMa.2.1, hMi.1]
    unfold fnd
    by_cases h1 : b.1 = ow
    · rw [if_neg (fun h => h h1), rv_e (by omega) hMa.2.1, s_B_isField hMa hMi, cI_e]
      by_cases h2 : isF b = fl
      · rw [if_neg (fun h => h (by rw [h2])), rv_e (by omega) hA.2.1, s_P_nameOf hA hR hW hb, cI_e]
        by_cases h3 : nameV pr b = nm
        · rw [if_neg (fun h => h h3), if_pos (by simp [findP, h1, h2, h3])]
        · rw [if_pos h3, if_neg (by simp [findP, h3])]
          exact hrec
      · rw [if_pos (fun h => h2 (bI_inj.mp h)), if_neg (by simp [findP, h2])]
        exact hrec
    · rw [if_pos h1, if_neg (by simp [findP, h1])]
      exact hrec
theorem s_P_find (hA : ProgAt M P) (hR : RepC M P pr) (hW : WF pr) (ow nm : Int32) (fl : Bool) : g_P_find P ow nm (bI fl) M = rI (findV pr ow nm fl) M := by
  unfold g_P_find
  have := hR.2.2.1
  exact s_P_find_l hA hR hW ow nm fl pr.2 0 (Nat.zero_le _) rfl FU (by unfold FU; omega)
/-- what the class's 'meant' answers -/
def meantC (pr : PR) (cl : List CT) (x : Int32) : Int32 := match lk cl x with
  | some q => if q.1 = 3 ∨ q.1 = 4 then findV pr (firstV cl q.2.1) (firstV cl q.2.2) (decide (q.1 = 3)) else -1
  | none => -1
theorem s_P_meant (hA : ProgAt M P) (hR : RepC M P pr) (hW : WF pr) {c : Nat} (hc : pr.1[c]? = some cl) (x : Int32) : g_P_meant P (nI c) x M = rI (meantC pr cl x) M := by
  have hz := hA.1
  obtain ⟨hc6, hxc, hPa, hPi⟩ := hR.pool hA hc
  have hl2 := hPi.1
  have hzp := hPa.1
  unfold g_P_meant meantC
  rw [gR_e (by omega) hA.2.1 hA.2.2.2.2.1, aR_e (by omega) hA.2.2.1 hc6 (by decide) hxc, rv_e (by omega) hPa.2.1, s_Q_has hPa hPi, cI_e]
  rcases lk_cases cl x (by omega) with ⟨h, hx⟩ | ⟨j, q, rfl, hj, hq, h⟩
  · rw [h, if_pos (by rfl)]
  · obtain ⟨e1, e2, e3⟩ := hPi.2.2 j q hq
    rw [h, if_neg bI_some, gR_e (by omega) hPa.2.1 hPa.2.2.2.2.2.1, aI_e (by omega) hPa.2.2.1 (by omega) (by decide), e1, s_hasTwo, cI_e]
    by_cases h34 : q.1 = 3 ∨ q.1 = 4
    · have hok := hW.1 cl (List.mem_of_getElem? hc) q (List.mem_of_getElem? hq)
      have hok' : (∃ r, lk cl q.2.1 = some r ∧ r.1 = 2) ∧ ∃ r, lk cl q.2.2 = some r ∧ r.1 = 1 := by
        rcases hok with h | ⟨h, -⟩ | ⟨h, -⟩ | ⟨-, h⟩
        · rcases h34 with h' | h' <;> (rw [h'] at h; exact absurd h (by decide))
        · rcases h34 with h' | h' <;> (rw [h'] at h; exact absurd h (by decide))
        · rcases h34 with h' | h' <;> (rw [h'] at h; exact absurd h (by decide))
        · exact h
      obtain ⟨⟨r1, hr1, -⟩, r2, hr2, -⟩ := hok'
      obtain ⟨j1, hj1, hj1l, hq1⟩ := lk_some (by omega) hr1
      obtain ⟨j2, hj2, hj2l, hq2⟩ := lk_some (by omega) hr2
      have f1 : firstV cl q.2.1 = r1.2.1 := by unfold firstV; rw [hr1]
      have f2 : firstV cl q.2.2 = r2.2.1 := by unfold firstV; rw [hr2]
      rw [if_pos (bI_t.mpr (by simp [h34])), gR_e (by omega) hPa.2.1 hPa.2.2.2.2.2.2.1, gR_e (by omega) hPa.2.1 hPa.2.2.2.2.2.2.1, aI_e (by omega) hPa.2.2.2.1 (by omega) (by decide), e2, hj1, aI_e (by omega) hPa.2.2.2.1 (by omega) (by decide), (hPi.2.2 j1 r1 hq1).2.1,
        gR_e (by omega) hPa.2.1 hPa.2.2.2.2.2.2.1, gR_e (by omega) hPa.2.1 hPa.2.2.2.2.2.2.2, aI_e (by omega) hPa.2.2.2.2.1 (by omega) (by decide), e3, hj2, aI_e (by omega) hPa.2.2.2.1 (by omega) (by decide), (hPi.2.2 j2 r2 hq2).2.1,
        gR_e (by omega) hPa.2.1 hPa.2.2.2.2.2.1, aI_e (by omega) hPa.2.2.1 (by omega) (by decide), e1]
      simp only [h34, if_true]
      rw [f1, f2]
      by_cases h3 : q.1 = 3
      · rw [if_neg (fun h => h h3), rv_e (by omega) hA.2.1]
        have := s_P_find hA hR hW r1.2.1 r2.2.1 true
        rw [show (1 : Int32) = bI true from rfl, this, cI_e]; simp [h3]
      · rw [if_pos h3, rv_e (by omega) hA.2.1]
        have := s_P_find hA hR hW r1.2.1 r2.2.1 false
        rw [show (0 : Int32) = bI false from rfl, this, cI_e]; simp [h3]
    · rw [if_neg (fun h => h (bI_0.mpr (by simp [h34])))]
      simp only [h34, if_false]
theorem meant_eq (pr : PR) (cl : List CT) (x k : Int32) (hk : k = 3 ∨ k = 4) : (holdsV cl x k && !(decide (meantC pr cl x = -1))) = !(decide (meantV pr cl x k = -1)) := by
  unfold holdsV meantC meantV
  cases h : lk cl x with
  | none => simp
  | some q =>
    by_cases hq : q.1 = k
    · subst hq
      simp [hk]
    · simp [hq]
theorem meant_kind {pr : PR} {cl : List CT} {x k : Int32} (hk : k = 3 ∨ k = 4) (h : ¬ meantV pr cl x k = -1) : meantC pr cl x = meantV pr cl x k := by
  unfold meantC
  unfold meantV at h ⊢
  cases hl : lk cl x with
  | none => simp [hl] at h
  | some q =>
    rw [hl] at h
    by_cases hq : q.1 = k
    · subst hq; simp [hk]
    · simp [hq] at h
theorem s_sound_in {x : Int32} {n : Int32} {A : Int32 → XP} (hA : A n = (if n ≤ x then z01 0 (some (.inl (some (.int 0)), M)) else z01 1 (some (.inl (some (.int 1)), M)))) : (if x < 0 then z01 0 (some (.inl (some (.int 0)), M)) else A n) = rB (inV x n) M := by
  unfold inV
  rw [hA]
  by_cases h1 : x < 0
  · simp [h1, z01, bI]
  · by_cases h2 : n ≤ x
    · simp [h1, h2, z01, bI]
    · simp [h1, h2, z01, bI]
theorem s_sound_m (hA : ProgAt M P) (hR : RepC M P pr) (hW : WF pr) {c : Nat} (hc : pr.1[c]? = some cl) (x k : Int32) (hk : k = 3 ∨ k = 4) :
    cI (g_Q_holds (P + 3 + 4 * c) x k M) (fun t3 M2 => if t3 = 0 then z01 0 (some (.inl (some (.int 0)), M2)) else rv M2 21 P (cI (g_P_meant P (nI c) x M2) fun t7 M6 => if t7 = -1 then z01 0 (some (.inl (some (.int 0)), M6)) else z01 1 (some (.inl (some (.int 1)), M6)))) = rB (!(decide (meantV pr cl x k = -1))) M := by
  have hz := hA.1
  obtain ⟨hc6, hxc, hPa, hPi⟩ := hR.pool hA hc
  rw [s_Q_holds hPa hPi, cI_e, ← meant_eq pr cl x k hk]
  cases hh : holdsV cl x k with
  | false => rw [if_pos (show bI false = 0 from rfl), z0_e]; rfl
  | true =>
    rw [if_neg (by decide), rv_e (by omega) hA.2.1, s_P_meant hA hR hW hc, cI_e]
    by_cases hm : meantC pr cl x = -1
    · rw [if_pos hm, z0_e]; simp [hm, bI]
    · rw [if_neg hm, z1_e]; simp [hm, bI]
theorem s_P_isSound (hA : ProgAt M P) (hR : RepC M P pr) (hW : WF pr) {m : Nat} (hm : pr.2[m]? = some b) (w x : Int32) : g_P_isSound P (P + 27 + 3 * m) w x M = rB (soundV pr b (w, x)) M := by
  have hz := hA.1
  obtain ⟨hm30, hxr, hMa, hMi⟩ := hR.memb hA hm
  obtain ⟨⟨cl, q, h1, h2, -⟩, -⟩ := hW.2 b (List.mem_of_getElem? hm)
  have hl1 : pr.1.length < 2 ^ 31 := by have := hR.1; omega
  obtain ⟨c, hc, hclt, hcl⟩ := lk_some hl1 h1
  obtain ⟨hc6, hxc, hPa, hPi⟩ := hR.pool hA hcl
  have hza := hMa.1
  have hzp := hPa.1
  have hgd : (lk pr.1 b.1).getD [] = cl := by rw [h1]; rfl
  unfold g_P_isSound
  rw [gR_e (by omega) hA.2.1 hA.2.2.2.2.1, gI_e (by omega) hMa.2.1, hMi.1, hc, aR_e (by omega) hA.2.2.1 hc6 (by decide) hxc]
  have h80 : ∀ k : Int32, k = 3 ∨ k = 4 → (rv M 22 (P + 3 + 4 * c) <| cI (g_Q_holds (P + 3 + 4 * c) x k M) fun t3 M2 => if t3 = 0 then z01 0 (some (.inl (some (.int 0)), M2)) else gI M2 23 (P + 27 + 3 * m) 0 fun t4 => rv M2 21 P <| cI (g_P_meant P t4 x M2) fun t7 M6 => if t7 = -1 then z01 0 (some (.inl (some (.int 0)), M6)) else z01 1 (some (.inl (some (.int 1)), M6))) = rB (!(decide (meantV pr cl x k = -1))) M := by
    intro k hk
    rw [rv_e (by omega) hPa.2.1, ← s_sound_m hA hR hW hcl x k hk, s_Q_holds hPa hPi, cI_e, cI_e]
    by_cases ht : bI (holdsV cl x k) = 0
    · rw [if_pos ht, if_pos ht]
    · rw [if_neg ht, if_neg ht, gI_e (by omega) hMa.2.1, hMi.1, hc]
  unfold soundV
  simp only [hgd]
  by_cases w0 : w = 0
  · rw [if_pos w0, if_pos w0, rv_e (by omega) hPa.2.1, s_Q_holds hPa hPi, cI_e, zB_e]
  rw [if_neg w0, if_neg w0]
  by_cases w1 : w = 1
  · rw [if_pos w1, if_pos (Or.inl w1)]
    exact h80 3 (Or.inl rfl)
  rw [if_neg w1]
  by_cases w2 : w = 2
  · rw [if_pos w2, if_pos (Or.inr w2)]
    exact h80 3 (Or.inl rfl)
  rw [if_neg w2, if_neg (show ¬ (w = 1 ∨ w = 2) by simp [w1, w2])]
  by_cases w3 : w = 3
  · rw [if_pos w3, if_pos w3]
    exact h80 4 (Or.inr rfl)
  rw [if_neg w3, if_neg w3]
  by_cases w4 : w = 4
  · rw [if_pos w4, if_pos w4]
    exact s_sound_in (A := fun _ => gI M 23 (P + 27 + 3 * m) 2 fun t4 => if t4 ≤ x then z01 0 (some (.inl (some (.int 0)), M)) else z01 1 (some (.inl (some (.int 1)), M))) (by simp only [gI_e (show P + 27 + 3 * m < xz M by omega) hMa.2.1, hMi.2.2.1])
  rw [if_neg w4, if_neg w4]
  have h156 : g_P_isSound_156 (P + 27 + 3 * m) x M = rB (inV x (nI b.2.2.2.2.length)) M := by
    unfold g_P_isSound_156
    exact s_sound_in (A := fun _ => gI M 23 (P + 27 + 3 * m) 4 fun t4 => if t4 ≤ x then z01 0 (some (.inl (some (.int 0)), M)) else z01 1 (some (.inl (some (.int 1)), M))) (by simp only [gI_e (show P + 27 + 3 * m < xz M by omega) hMa.2.1, hMi.2.2.2.2.1])
  by_cases w9 : w = 9
  · subst w9
    rw [if_pos (Or.inl rfl)]
    exact h156
  by_cases w10 : w = 10
  · subst w10
    rw [if_pos (Or.inr rfl)]
    exact h156
  rw [if_neg (show ¬ (w = 9 ∨ w = 10) by simp [w9, w10])]
  by_cases w5 : w = 5
  · rw [if_pos w5, z1_e]; rfl
  by_cases w6 : w = 6
  · rw [if_neg w5, if_pos w6, z1_e]; rfl
  by_cases w7 : w = 7
  · rw [if_neg w5, if_neg w6, if_pos w7, z1_e]; rfl
  by_cases w8 : w = 8
  · rw [if_neg w5, if_neg w6, if_neg w7, if_pos w8, z1_e]; rfl
  rw [if_neg w5, if_neg w6, if_neg w7, if_neg w8, if_neg w9, if_neg w10, z1_e]; rfl
theorem s_ff_i (hA : ProgAt M P) (hR : RepC M P pr) (hW : WF pr) {m : Nat} (hm : pr.2[m]? = some b) (r : Nat → Int32 → XM → XP) : ∀ (t : List IN) (i : Nat), i ≤ b.2.2.2.2.length → b.2.2.2.2.drop i = t → ∀ n, t.length < n →
    g_P_firstFault_19 r n P (nI m) (P + 27 + 3 * m) (nI i) M = match ffI pr b t i with
      | some k => rI (100 * nI m + nI k) M
      | none => r P (nI m + 1) M := by
  have hz := hA.1
  obtain ⟨hm30, hxr, hMa, hMi⟩ := hR.memb hA hm
  have hza := hMa.1
  have hlen := hMi.2.2.2.2.2.1
  intro t
  induction t with
  | nil =>
    intro i hl hi n hn
    obtain ⟨n, rfl⟩ : ∃ k, n = k + 1 := ⟨n - 1, by simp at hn; omega⟩
    rw [g_P_firstFault_19, gI_e (by omega) hMa.2.1, hMi.2.2.2.2.1, dropN hi hl, if_pos (nI_le (Nat.le_refl _) (by omega))]
    rfl
  | cons q t ih =>
    intro i hl hi n hn
    obtain ⟨n, rfl⟩ : ∃ k, n = k + 1 := ⟨n - 1, by simp at hn; omega⟩
    obtain ⟨hq, ht, hlt⟩ := dropC hi
    obtain ⟨e1, e2⟩ := hMi.2.2.2.2.2.2 i q hq
    rw [g_P_firstFault_19, gI_e (by omega) hMa.2.1, hMi.2.2.2.2.1, if_neg (nI_ge hlt (by omega)), gR_e (by omega) hMa.2.1 hMa.2.2.2.2.1, aI_e (by omega) hMa.2.2.1 (by omega) (by decide), e1, gR_e (by omega) hMa.2.1 hMa.2.2.2.2.2, aI_e (by omega) hMa.2.2.2.1 (by omega) (by decide), e2,
      rv_e (by omega) hA.2.1, s_P_isSound hA hR hW hm, cI_e]
    unfold ffI
    by_cases hs : soundV pr b q = true
    · rw [if_pos (bI_t.mpr hs), if_pos hs, nI_1]
      exact ih (i + 1) hlt ht n (by simp at hn; omega)
    · rw [if_neg (fun h => hs (bI_t.mp h)), if_neg hs]
theorem s_ff_m (hA : ProgAt M P) (hR : RepC M P pr) (hW : WF pr) : ∀ (t : List MB) (m : Nat), m ≤ pr.2.length → pr.2.drop m = t → ∀ n, t.length < n → g_P_firstFault_2 n P (nI m) M = rI (ffM pr t m) M := by
  have hz := hA.1
  have h30 := hR.2.2.1
  intro t
  induction t with
  | nil =>
    intro i hl hi n hn
    obtain ⟨n, rfl⟩ : ∃ k, n = k + 1 := ⟨n - 1, by simp at hn; omega⟩
    rw [g_P_firstFault_2, gI_e (by omega) hA.2.1, hR.2.2.2.1, dropN hi hl, if_pos (nI_le (Nat.le_refl _) (by omega))]
    rfl
  | cons b t ih =>
    intro i hl hi n hn
    obtain ⟨n, rfl⟩ : ∃ k, n = k + 1 := ⟨n - 1, by simp at hn; omega⟩
    obtain ⟨hb, ht, hlt⟩ := dropC hi
    obtain ⟨hm30, hxr, hMa, hMi⟩ := hR.memb hA hb
    have hlen := hMi.2.2.2.2.2.1
    rw [g_P_firstFault_2, gI_e (by omega) hA.2.1, hR.2.2.2.1, if_neg (nI_ge hlt (by omega)), gR_e (by omega) hA.2.1 hA.2.2.2.2.2.1, aR_e (by omega) hA.2.2.2.1 hm30 (by decide) hxr]
    have := s_ff_i hA hR hW hb (g_P_firstFault_2 n) b.2.2.2.2 0 (Nat.zero_le _) rfl FU (by unfold FU; omega)
    rw [show (0 : Int32) = nI 0 from rfl, this]
    unfold ffM
    cases hf : ffI pr b b.2.2.2.2 0 with
    | some k => rfl
    | none =>
      simp only
      rw [nI_1]
      exact ih (i + 1) hlt ht n (by simp at hn; omega)
theorem s_P_firstFault (hA : ProgAt M P) (hR : RepC M P pr) (hW : WF pr) : g_P_firstFault P M = rI (faultV pr) M := by
  have := hR.2.2.1
  exact s_ff_m hA hR hW pr.2 0 (Nat.zero_le _) rfl FU (by unfold FU; omega)
theorem s_ent (hA : ProgAt M P) (hR : RepC M P pr) : ∀ (t : List MB) (m : Nat) (e : Int32), m ≤ pr.2.length → pr.2.drop m = t → ∀ n, t.length < n → g_P_entries_4 n P e (nI m) M = rI (entV t e) M := by
  have hz := hA.1
  have h30 := hR.2.2.1
  intro t
  induction t with
  | nil =>
    intro i e hl hi n hn
    obtain ⟨n, rfl⟩ : ∃ k, n = k + 1 := ⟨n - 1, by simp at hn; omega⟩
    rw [g_P_entries_4, gI_e (by omega) hA.2.1, hR.2.2.2.1, dropN hi hl, if_pos (nI_le (Nat.le_refl _) (by omega))]
    rfl
  | cons b t ih =>
    intro i e hl hi n hn
    obtain ⟨n, rfl⟩ : ∃ k, n = k + 1 := ⟨n - 1, by simp at hn; omega⟩
    obtain ⟨hb, ht, hlt⟩ := dropC hi
    obtain ⟨hm30, hxr, hMa, hMi⟩ := hR.memb hA hb
    have hza := hMa.1
    rw [g_P_entries_4, gI_e (by omega) hA.2.1, hR.2.2.2.1, if_neg (nI_ge hlt (by omega)), gR_e (by omega) hA.2.1 hA.2.2.2.2.2.1, aR_e (by omega) hA.2.2.2.1 hm30 (by decide) hxr, gI_e (by omega) hMa.2.1, hMi.2.2.2.1, nI_1]
    unfold entV
    by_cases he : b.2.2.2.1 = 0
    · rw [if_pos he, if_pos he]; exact ih (i + 1) _ hlt ht n (by simp at hn; omega)
    · rw [if_neg he, if_neg he]; exact ih (i + 1) _ hlt ht n (by simp at hn; omega)
theorem s_P_entries (hA : ProgAt M P) (hR : RepC M P pr) : g_P_entries P M = rI (entV pr.2 0) M := by
  have := hR.2.2.1
  exact s_ent hA hR pr.2 0 0 (Nat.zero_le _) rfl FU (by unfold FU; omega)
end PQ
