/-! what is kept -/
def isRef (i : IN) : Prop := i.1 = 1 ∨ i.1 = 2 ∨ i.1 = 3
def isUse (i : IN) : Prop := i.1 = 0 ∨ i.1 = 1 ∨ i.1 = 2 ∨ i.1 = 3
def refK (i : IN) : Int32 := if i.1 = 3 then 4 else 3
def Means (pr : PR) (m k : Nat) : Prop := k < pr.2.length ∧ ∃ b cl i, pr.2[m]? = some b ∧ lk pr.1 b.1 = some cl ∧ i ∈ b.2.2.2.2 ∧ isRef i ∧ meantV pr cl i.2 (refK i) = nI k
def Entr (pr : PR) (m : Nat) : Prop := ∃ b, pr.2[m]? = some b ∧ ¬ b.2.2.2.1 = 0
def Kept (pr : PR) (k : Nat) : Prop := ∀ S : Nat → Prop, (∀ m, Entr pr m → S m) → (∀ m k, S m → Means pr m k → S k) → S k
theorem Kept.entr {pr : PR} {m : Nat} (h : Entr pr m) : Kept pr m := fun _ h1 _ => h1 m h
theorem Kept.step {pr : PR} {m k : Nat} (h : Kept pr m) (h2 : Means pr m k) : Kept pr k := fun S h3 h4 => h4 m k (h S h3 h4) h2
theorem Kept.lt {pr : PR} {m : Nat} (h : Kept pr m) : m < pr.2.length := h (fun m => m < pr.2.length) (fun m ⟨b, hb, _⟩ => (List.getElem?_eq_some_iff.mp hb).1) fun m k _ h => h.1
def PC (pr : PR) (c : Nat) : Prop := ∃ m b, Kept pr m ∧ pr.2[m]? = some b ∧ b.1 = nI c
def MarkI (cl : List CT) (i : IN) (j : Nat) : Prop := isUse i ∧ (i.2 = nI j ∨ (isRef i ∧ ∃ q, lk cl i.2 = some q ∧ (q.2.1 = nI j ∨ q.2.2 = nI j)))
def KC (pr : PR) (c j : Nat) : Prop := ∃ m b cl, Kept pr m ∧ pr.2[m]? = some b ∧ b.1 = nI c ∧ lk pr.1 b.1 = some cl ∧ (b.2.1 = nI j ∨ ∃ i ∈ b.2.2.2.2, MarkI cl i j)
/-- how many below n -/
def rk (P : Nat → Bool) : Nat → Nat
  | 0 => 0
  | n + 1 => rk P n + (if P n = true then 1 else 0)
theorem rk_le (P : Nat → Bool) : ∀ n, rk P n ≤ n
  | 0 => Nat.le_refl _
  | n + 1 => by have := rk_le P n; unfold rk; split <;> omega
theorem rk_congr {P Q : Nat → Bool} : ∀ {n : Nat}, (∀ j, j < n → P j = Q j) → rk P n = rk Q n
  | 0, _ => rfl
  | n + 1, h => by unfold rk; rw [rk_congr (n := n) fun j hj => h j (by omega), h n (by omega)]
theorem rk_add {P Q : Nat → Bool} {m : Nat} (hP : P m = false) (hQ : Q m = true) (h : ∀ j, j ≠ m → Q j = P j) : ∀ {n : Nat}, m < n → rk Q n = rk P n + 1
  | 0, hn => by omega
  | n + 1, hn => by
    unfold rk
    by_cases e : m = n
    · subst e
      rw [hP, hQ, rk_congr (P := Q) (Q := P) fun j hj => h j (by omega)]
      simp
    · rw [rk_add hP hQ h (n := n) (by omega), h n (by omega)]
      omega
theorem rk_mono (P : Nat → Bool) {a : Nat} : ∀ {b : Nat}, a ≤ b → rk P a ≤ rk P b
  | 0, h => by rw [show a = 0 by omega]; exact Nat.le_refl _
  | b + 1, h => by
    by_cases e : a = b + 1
    · rw [e]; exact Nat.le_refl _
    · have := rk_mono P (a := a) (b := b) (by omega)
      show rk P a ≤ rk P b + (if P b = true then 1 else 0)
      omega
theorem rk_lt {P : Nat → Bool} {m n : Nat} (hm : m < n) (h : P m = true) : rk P m < rk P n := by
  have := rk_mono P (a := m + 1) (b := n) (by omega)
  have h2 : rk P (m + 1) = rk P m + 1 := by show rk P m + (if P m = true then 1 else 0) = _; rw [if_pos h]
  omega
/-! the class keeps -/
def kB (M : XM) (m : Nat) : Bool := decide (¬ xi M 237 m = -1)
def kN (M : XM) : Nat := rk (kB M) 30
def Kp (M : XM) (pr : PR) : Prop := (∀ m, m < 30 → xi M 237 m = -1 ∨ (xi M 237 m = 0 ∧ Kept pr m)) ∧ (∀ c, c < 6 → xi M 238 c = -1 ∨ (xi M 238 c = 0 ∧ PC pr c)) ∧ (∀ c j, c < 6 → j < 20 → xi M (240 + c) j = -1 ∨ (xi M (240 + c) j = 0 ∧ KC pr c j)) ∧
  xi M 236 6 = nI (kN M) ∧ (∀ j, j < kN M → ∃ m, m < 30 ∧ xi M 248 j = nI m ∧ ¬ xi M 237 m = -1) ∧ (∀ m, m < 30 → ¬ xi M 237 m = -1 → (∃ j, j < kN M ∧ xi M 248 j = nI m) ∧ ∀ b c j, pr.2[m]? = some b → b.1 = nI c → b.2.1 = nI j → c < 6 → j < 20 → ¬ xi M 238 c = -1 ∧ ¬ xi M (240 + c) j = -1)
def Gr (M N : XM) : Prop := (∀ m, m < 30 → ¬ xi M 237 m = -1 → ¬ xi N 237 m = -1) ∧ (∀ c, c < 6 → ¬ xi M 238 c = -1 → ¬ xi N 238 c = -1) ∧ (∀ c j, c < 6 → j < 20 → ¬ xi M (240 + c) j = -1 → ¬ xi N (240 + c) j = -1) ∧ kN M ≤ kN N ∧ (∀ j, j < kN M → xi N 248 j = xi M 248 j) ∧ xi N 246 = xi M 246 ∧ xi N 247 = xi M 247
theorem Gr.rf {M : XM} : Gr M M := ⟨fun _ _ h => h, fun _ _ h => h, fun _ _ _ _ h => h, Nat.le_refl _, fun _ _ => rfl, rfl, rfl⟩
theorem Gr.tr {M N K : XM} (h : Gr M N) (g : Gr N K) : Gr M K :=
  ⟨fun m hm h1 => g.1 m hm (h.1 m hm h1), fun m hm h1 => g.2.1 m hm (h.2.1 m hm h1), fun c j hc hj h1 => g.2.2.1 c j hc hj (h.2.2.1 c j hc hj h1), Nat.le_trans h.2.2.2.1 g.2.2.2.1, fun j hj => (g.2.2.2.2.1 j (Nat.lt_of_lt_of_le hj h.2.2.2.1)).trans (h.2.2.2.2.1 j hj), g.2.2.2.2.2.1.trans h.2.2.2.2.2.1, g.2.2.2.2.2.2.trans h.2.2.2.2.2.2⟩
theorem z_m1 : ¬ (0 : Int32) = -1 := by decide
section PKP
variable {M N : XM} {pr : PR}
/-- a place is marked -/
theorem Kp.mark (h : Kp M pr) {c j : Nat} (hc : c < 6) (hj : j < 20) (hk : KC pr c j) : Kp (xpi M (240 + c) j 0) pr ∧ Gr M (xpi M (240 + c) j 0) := by
  have e1 : ∀ b, b ≠ 240 + c → xi (xpi M (240 + c) j 0) b = xi M b := fun b hb => xi_row hb
  have ek : kN (xpi M (240 + c) j 0) = kN M := rk_congr fun k _ => by unfold kB; rw [e1 237 (by omega)]
  have e2 : ∀ d k, ¬ xi M (240 + d) k = -1 → ¬ xi (xpi M (240 + c) j 0) (240 + d) k = -1 := by
    intro d k hn
    by_cases e : d = c ∧ k = j
    · obtain ⟨rfl, rfl⟩ := e; rw [xi_eq]; exact z_m1
    · rw [xi_no (by omega)]; exact hn
  obtain ⟨h1, h2, h3, h4, h5, h6⟩ := h
  refine ⟨⟨fun m hm => by rw [e1 237 (by omega)]; exact h1 m hm, fun m hm => by rw [e1 238 (by omega)]; exact h2 m hm, fun d k hd hk' => ?_, by rw [e1 236 (by omega), ek]; exact h4, fun k hk' => ?_, fun m hm hn => ?_⟩, ⟨fun m hm hn => by rw [e1 237 (by omega)]; exact hn, fun m hm hn => by rw [e1 238 (by omega)]; exact hn, fun d k _ _ hn => e2 d k hn, by rw [ek]; exact Nat.le_refl _, fun k _ => by rw [e1 248 (by omega)], e1 246 (by omega), e1 247 (by omega)⟩⟩
  · by_cases e : d = c ∧ k = j
    · obtain ⟨rfl, rfl⟩ := e; rw [xi_eq]; exact Or.inr ⟨rfl, hk⟩
    · rw [xi_no (by omega)]; exact h3 d k hd hk'
  · rw [ek] at hk'
    obtain ⟨m, m1, m2, m3⟩ := h5 k hk'
    exact ⟨m, m1, by rw [e1 248 (by omega)]; exact m2, by rw [e1 237 (by omega)]; exact m3⟩
  · rw [e1 237 (by omega)] at hn
    obtain ⟨⟨k, k1, k2⟩, k3⟩ := h6 m hm hn
    refine ⟨⟨k, by rw [ek]; exact k1, by rw [e1 248 (by omega)]; exact k2⟩, fun b c' j' hb hc' hj' l1 l2 => ?_⟩
    obtain ⟨q1, q2⟩ := k3 b c' j' hb hc' hj' l1 l2
    exact ⟨by rw [e1 238 (by omega)]; exact q1, e2 _ _ q2⟩
/-- a member is kept -/
theorem Kp.add (h : Kp M pr) {m c j : Nat} {b : MB} (hm : m < 30) (hc : c < 6) (hj : j < 20) (hk : Kept pr m) (hb : pr.2[m]? = some b) (hbc : b.1 = nI c) (hbj : b.2.1 = nI j) (hcl : ∃ cl, lk pr.1 b.1 = some cl) (h0 : xi M 237 m = -1)
    (n1 : ∀ k, xi N 237 k = if k = m then 0 else xi M 237 k) (n2 : ∀ k, xi N 238 k = if k = c then 0 else xi M 238 k) (n3 : ∀ d k, d < 6 → xi N (240 + d) k = if d = c ∧ k = j then 0 else xi M (240 + d) k) (n4 : ∀ k, xi N 248 k = if k = kN M then nI m else xi M 248 k) (n5 : xi N 236 6 = nI (kN M + 1)) (n6 : xi N 246 = xi M 246 ∧ xi N 247 = xi M 247) : kN M < 30 ∧ Kp N pr ∧ Gr M N ∧ ¬ xi N 237 m = -1 := by
  have ek : kN N = kN M + 1 := rk_add (m := m) (by unfold kB; simp [h0]) (by unfold kB; rw [n1, if_pos rfl]; decide) (fun k hk => by unfold kB; rw [n1, if_neg hk]) hm
  have hle : kN N ≤ 30 := rk_le _ _
  have hpc : PC pr c := ⟨m, b, hk, hb, hbc⟩
  obtain ⟨cl, hcl⟩ := hcl
  have hkc : KC pr c j := ⟨m, b, cl, hk, hb, hbc, hcl, Or.inl hbj⟩
  have g1 : ∀ k, ¬ xi M 237 k = -1 → ¬ xi N 237 k = -1 := fun k hn => by rw [n1]; split; exact z_m1; exact hn
  have g2 : ∀ k, ¬ xi M 238 k = -1 → ¬ xi N 238 k = -1 := fun k hn => by rw [n2]; split; exact z_m1; exact hn
  have g3 : ∀ d k, d < 6 → ¬ xi M (240 + d) k = -1 → ¬ xi N (240 + d) k = -1 := fun d k hd hn => by rw [n3 d k hd]; split; exact z_m1; exact hn
  obtain ⟨h1, h2, h3, h4, h5, h6⟩ := h
  refine ⟨by omega, ⟨fun k hk' => ?_, fun k hk' => ?_, fun d k hd hk' => ?_, by rw [ek]; exact n5, fun k hk' => ?_, fun k hk' hn => ?_⟩, ⟨fun k _ => g1 k, fun k _ => g2 k, fun d k hd _ => g3 d k hd, by omega, fun k hk' => by rw [n4, if_neg (by omega)], n6⟩, by rw [n1, if_pos rfl]; exact z_m1⟩
  · rw [n1]
    by_cases e : k = m
    · rw [if_pos e]; exact Or.inr ⟨rfl, e ▸ hk⟩
    · rw [if_neg e]; exact h1 k hk'
  · rw [n2]
    by_cases e : k = c
    · rw [if_pos e]; exact Or.inr ⟨rfl, e ▸ hpc⟩
    · rw [if_neg e]; exact h2 k hk'
  · rw [n3 d k hd]
    by_cases e : d = c ∧ k = j
    · rw [if_pos e]; exact Or.inr ⟨rfl, by rw [e.1, e.2]; exact hkc⟩
    · rw [if_neg e]; exact h3 d k hd hk'
  · rw [n4]
    by_cases e : k = kN M
    · rw [if_pos e]; exact ⟨m, hm, rfl, by rw [n1, if_pos rfl]; exact z_m1⟩
    · rw [if_neg e]
      obtain ⟨m', m1, m2, m3⟩ := h5 k (by omega)
      exact ⟨m', m1, m2, g1 _ m3⟩
  · by_cases e : k = m
    · subst e
      refine ⟨⟨kN M, by omega, by rw [n4, if_pos rfl]⟩, fun b' c' j' hb' hc' hj' l1 l2 => ?_⟩
      rw [hb] at hb'
      cases hb'
      have e1 : c' = c := (nI_eq (by omega) (by omega)).mp (hc'.symm.trans hbc)
      have e2 : j' = j := (nI_eq (by omega) (by omega)).mp (hj'.symm.trans hbj)
      subst e1 e2
      exact ⟨by rw [n2, if_pos rfl]; exact z_m1, by rw [n3 _ _ hc, if_pos ⟨rfl, rfl⟩]; exact z_m1⟩
    · rw [n1, if_neg e] at hn
      obtain ⟨⟨k', k1, k2⟩, k3⟩ := h6 k hk' hn
      refine ⟨⟨k', by omega, by rw [n4, if_neg (by omega)]; exact k2⟩, fun b' c' j' hb' hc' hj' l1 l2 => ?_⟩
      obtain ⟨q1, q2⟩ := k3 b' c' j' hb' hc' hj' l1 l2
      exact ⟨g2 _ q1, g3 _ _ l1 q2⟩
def CtK (M : XM) (pr : PR) : Prop := Lay M ∧ RepC M 2 pr
theorem Upd.ctk (h : Upd 236 249 M N) (c : CtK M pr) : CtK N pr := ⟨h.lay c.1, c.2.congr fun b _ _ => h.2.2.2.2.2 b (by omega)⟩
theorem CtK.sh (c : CtK M pr) : ShakAt M := c.1.2.2.2.2.2.2.2.2.2.1
theorem CtK.pg (c : CtK M pr) : ProgAt M 2 := c.1.2.2.2.2.2.2.2.1
theorem okM.at {b : MB} (hz : Sz pr) (h : okM pr b) : ∃ c j cl, c < 6 ∧ j < 20 ∧ b.1 = nI c ∧ b.2.1 = nI j ∧ lk pr.1 b.1 = some cl ∧ pr.1[c]? = some cl ∧ j < cl.length ∧ cl.length ≤ 20 := by
  obtain ⟨⟨cl, q, h1, h2, h3⟩, -⟩ := h
  have h6 := hz.1
  obtain ⟨c, e1, e2, e3⟩ := lk_some (by omega) h1
  have hl := hz.2.2.1 cl (lk_mem h1)
  obtain ⟨j, e4, e5, e6⟩ := lk_some (by omega) h2
  exact ⟨c, j, cl, by omega, by omega, e1, e4, h1, e3, e5, hl⟩
theorem rv24 (c : CtK M pr) {g : XP} : rv M 24 236 g = g := by
  have hz := c.sh.1
  exact rv_e (by omega) c.sh.2.1
theorem s_K_keepMember (c : CtK M pr) (hW : WF pr) (h : Kp M pr) {m : Nat} (hk : Kept pr m) : ∃ N, g_K_keepMember 236 2 (nI m) M = rV N ∧ Upd 236 249 M N ∧ Kp N pr ∧ Gr M N ∧ ¬ xi N 237 m = -1 := by
  have hmlt := hk.lt
  have h30 := c.2.2.2.1
  have hS := c.sh
  have hP := c.pg
  have hz := hS.1
  have hzp := hP.1
  obtain ⟨s1, s2, s3, s4, s5, s6, s7, s8, s9, s10, s11, s12, s13, s14, s15⟩ := id hS
  have hb := List.getElem?_eq_getElem hmlt
  generalize pr.2[m] = b at hb
  obtain ⟨d, j, cl, d6, j20, ed, ej, hcl, hdl, hjl, hl20⟩ := okM.at c.2.sz (hW.2 b (List.mem_of_getElem? hb))
  obtain ⟨hm30, hxr, hMa, hMi⟩ := c.2.memb hP hb
  have hza := hMa.1
  unfold g_K_keepMember
  rw [if_neg (show ¬ nI m = -1 from fun e => nI_pos (show m < 2 ^ 31 by omega) (by rw [e]; decide)), gR_e (by omega) s2 s9, aI_e (by omega) s3 hm30 (by decide)]
  by_cases h0 : xi M 237 m = -1
  · have e8 : xi (xpi M 237 m 0) (2 + 27 + 3 * m) 0 = nI d := by rw [xi_ne1 (by omega)]; exact hMi.1.trans ed
    have e9 : xi (xpi (xpi M 237 m 0) 238 d 0) (2 + 27 + 3 * m) 0 = nI d := by rw [xi_ne1 (by omega)]; exact e8
    have e10 : xi (xpi (xpi M 237 m 0) 238 d 0) (2 + 27 + 3 * m) 1 = nI j := by rw [xi_ne1 (by omega), xi_ne1 (by omega)]; exact hMi.2.1.trans ej
    have e11 : xi (xpi (xpi (xpi M 237 m 0) 238 d 0) (240 + d) j 0) 236 6 = nI (kN M) := by rw [xi_ne1 (by omega), xi_ne1 (by omega), xi_ne1 (by omega)]; exact h.2.2.2.1
    have e12 : xi (xpi (xpi (xpi (xpi M 237 m 0) 238 d 0) (240 + d) j 0) 248 (kN M) (nI m)) 236 6 = nI (kN M) := by rw [xi_ne1 (by omega)]; exact e11
    obtain ⟨a1, a2, a3, a4⟩ := Kp.add (N := xpi (xpi (xpi (xpi (xpi M 237 m 0) 238 d 0) (240 + d) j 0) 248 (kN M) (nI m)) 236 6 (nI (kN M + 1))) h hm30 d6 j20 hk hb ed ej ⟨cl, hcl⟩ h0
      (fun k => by
        rw [xi_ne1 (by omega), xi_ne1 (by omega), xi_ne1 (by omega), xi_ne1 (by omega)]
        by_cases e : k = m
        · rw [if_pos e, e, xi_eq]
        · rw [if_neg e, xi_no (by omega)])
      (fun k => by
        rw [xi_ne1 (by omega), xi_ne1 (by omega), xi_ne1 (by omega)]
        by_cases e : k = d
        · rw [if_pos e, e, xi_eq]
        · rw [if_neg e, xi_no (by omega), xi_ne1 (by omega)])
      (fun d' k hd' => by
        rw [xi_ne1 (by omega), xi_ne1 (by omega)]
        by_cases e : d' = d ∧ k = j
        · rw [if_pos e, e.1, e.2, xi_eq]
        · rw [if_neg e, xi_no (by omega), xi_ne1 (by omega), xi_ne1 (by omega)])
      (fun k => by
        rw [xi_ne1 (by omega)]
        by_cases e : k = kN M
        · rw [if_pos e, e, xi_eq]
        · rw [if_neg e, xi_no (by omega), xi_ne1 (by omega), xi_ne1 (by omega), xi_ne1 (by omega)])
      (xi_eq _ _ _ _) ⟨by rw [xi_row (by omega), xi_row (by omega), xi_row (by omega), xi_row (by omega), xi_row (by omega)], by rw [xi_row (by omega), xi_row (by omega), xi_row (by omega), xi_row (by omega), xi_row (by omega)]⟩
    refine ⟨_, ?_, ((((Upd.rf.pi (a := 237) (by omega) (by omega)).pi (a := 238) (by omega) (by omega)).pi (a := 240 + d) (by omega) (by omega)).pi (a := 248) (by omega) (by omega)).pi (a := 236) (by omega) (by omega), a2, a3, a4⟩
    rw [if_pos h0, gR_e (by omega) hP.2.1 hP.2.2.2.2.2.1, aR_e (by omega) hP.2.2.2.1 hm30 (by decide) hxr, gR_e (by omega) s2 s9, sI_e (by omega) s3 hm30 (by decide), gR_e (M := xpi M _ _ _) (by show _ < xz M; omega) s2 s10, gI_e (M := xpi M _ _ _) (by show _ < xz M; omega) hMa.2.1, e8, sI_e (M := xpi M _ _ _) (by show _ < xz M; omega) s4 d6 (by decide),
      gR_e (M := xpi (xpi M _ _ _) _ _ _) (by show _ < xz M; omega) s2 s11, gI_e (M := xpi (xpi M _ _ _) _ _ _) (by show _ < xz M; omega) hMa.2.1, e9, aR_e (M := xpi (xpi M _ _ _) _ _ _) (by show _ < xz M; omega) s5 d6 (by decide) (s15 d d6).1, gI_e (M := xpi (xpi M _ _ _) _ _ _) (by show _ < xz M; omega) hMa.2.1, e10, sI_e (M := xpi (xpi M _ _ _) _ _ _) (by show _ < xz M; omega) (s15 d d6).2 j20 (by decide),
      gR_e (M := xpi (xpi (xpi M _ _ _) _ _ _) _ _ _) (by show _ < xz M; omega) s2 s14, gI_e (M := xpi (xpi (xpi M _ _ _) _ _ _) _ _ _) (by show _ < xz M; omega) s2, e11, sI_e (M := xpi (xpi (xpi M _ _ _) _ _ _) _ _ _) (by show _ < xz M; omega) s8 a1 (by decide),
      gI_e (M := xpi (xpi (xpi (xpi M _ _ _) _ _ _) _ _ _) _ _ _) (by show _ < xz M; omega) s2, e12, nI_1, uI_e (M := xpi (xpi (xpi (xpi M _ _ _) _ _ _) _ _ _) _ _ _) (by show _ < xz M; omega) s2]
  · rw [if_neg h0]
    exact ⟨M, rfl, Upd.rf, h, Gr.rf, h0⟩
end PKP
