/-! programs stay well made -/
theorem lk_app {α : Type} {l t : List α} {x : Int32} {q : α} (h : lk l x = some q) : lk (l ++ t) x = some q := by
  unfold lk at *
  split at h
  · cases h
  · rename_i hx
    rw [if_neg hx, List.getElem?_append_left (List.getElem?_eq_some_iff.mp h).1]; exact h
theorem okC.mono {n n' : Nat} {cl t : List CT} {q : CT} (hn : n ≤ n') (h : okC n cl q) : okC n' (cl ++ t) q := by
  rcases h with h | h | ⟨h, c, hc, e⟩ | ⟨h, ⟨r, h1, h2⟩, r', h3, h4⟩
  · exact Or.inl h
  · exact Or.inr (Or.inl h)
  · exact Or.inr (Or.inr (Or.inl ⟨h, c, by omega, e⟩))
  · exact Or.inr (Or.inr (Or.inr ⟨h, ⟨r, lk_app h1, h2⟩, r', lk_app h3, h4⟩))
def PExt (A B : List (List CT)) : Prop := ∀ x cl, lk A x = some cl → ∃ t, lk B x = some (cl ++ t)
theorem okM.ext {pr : PR} {B : List (List CT)} {ms : List MB} {b : MB} (he : PExt pr.1 B) (h : okM pr b) : okM (B, ms) b := by
  obtain ⟨⟨cl, q, h1, h2, h3⟩, h4⟩ := h
  obtain ⟨t, ht⟩ := he _ _ h1
  exact ⟨⟨cl ++ t, q, ht, lk_app h2, h3⟩, h4⟩
theorem PExt.rf (A : List (List CT)) : PExt A A := fun x cl h => ⟨[], by rw [List.append_nil]; exact h⟩
theorem WF.nil : WF ([], []) := ⟨(fun _ h => by cases h), (fun _ h => by cases h)⟩
def OkW (r : OR) : Prop := match r with
  | .inl (_, pr') => WF pr'
  | .inr _ => True
theorem mem_set_cases {α : Type} {l : List α} {n : Nat} {v x : α} (h : x ∈ l.set n v) : x = v ∨ x ∈ l := by
  rcases List.mem_or_eq_of_mem_set h with h | h
  · exact Or.inr h
  · exact Or.inl h
section PWF
variable {pr : PR} {cl : List CT} {b : MB}
theorem WF.add (h : WF pr) : OkW (addV pr) := by
  unfold addV
  split
  · refine ⟨fun cl hcl q hq => ?_, fun b hb => okM.ext (fun x cl hx => ⟨[], by rw [List.append_nil]; exact lk_app hx⟩) (h.2 b hb)⟩
    rcases List.mem_append.mp hcl with h1 | h1
    · have := (h.1 cl h1 q hq).mono (t := []) (n' := (pr.1 ++ [[]]).length) (by simp)
      rw [List.append_nil] at this; exact this
    · rw [List.mem_singleton] at h1; subst h1; cases hq
  · trivial
theorem holds_some {x k : Int32} (h : holdsV cl x k = true) : ∃ r, lk cl x = some r ∧ r.1 = k := by
  unfold holdsV at h
  split at h
  · rename_i q hq; exact ⟨q, hq, by simpa using h⟩
  · cases h
theorem allowK_ok {k a b : Int32} (h6 : pr.1.length ≤ 6) (h : allowK pr cl k a b = true) : okC pr.1.length cl (k, a, if k = 3 ∨ k = 4 then b else 0) := by
  unfold allowK at h
  by_cases k0 : k = 0
  · exact Or.inl k0
  rw [if_neg k0] at h
  by_cases k1 : k = 1
  · rw [if_pos k1] at h
    refine Or.inr (Or.inl ⟨k1, ?_⟩)
    unfold inV at h
    rcases pk_ix (n := 100) a (by decide) with h1 | h1 | ⟨j, hj, rfl⟩
    · rw [show decide (a < 0) = true by simp [h1]] at h; cases h
    · rw [show decide ((100 : Int32) ≤ a) = true from decide_eq_true (by exact h1)] at h; simp at h
    · exact ⟨j, hj, rfl⟩
  rw [if_neg k1] at h
  by_cases k2 : k = 2
  · rw [if_pos k2] at h
    refine Or.inr (Or.inr (Or.inl ⟨k2, ?_⟩))
    obtain ⟨q, hq⟩ := Option.isSome_iff_exists.mp h
    obtain ⟨j, e, hj, -⟩ := lk_some (by omega) hq
    exact ⟨j, hj, e⟩
  rw [if_neg k2] at h
  by_cases k3 : k = 3 ∨ k = 4
  · rw [if_pos k3, Bool.and_eq_true] at h
    refine Or.inr (Or.inr (Or.inr ⟨k3, holds_some h.1, ?_⟩))
    simp only [if_pos k3]
    exact holds_some h.2
  · rw [if_neg k3] at h; cases h
theorem lk_set {α : Type} {l : List α} {o x : Int32} {v c d : α} (ho : lk l o = some c) (hx : lk l x = some d) : lk (l.set o.toNatClampNeg v) x = some (if o.toNatClampNeg = x.toNatClampNeg then v else d) := by
  unfold lk at *
  split at hx
  · cases hx
  · rename_i h
    have hlt := (List.getElem?_eq_some_iff.mp hx).1
    rw [if_neg h, List.getElem?_set]
    by_cases e : o.toNatClampNeg = x.toNatClampNeg
    · rw [if_pos e, if_pos (by omega), if_pos e]
    · rw [if_neg e, if_neg e]; exact hx
theorem WF.const (h : WF pr) (h6 : pr.1.length ≤ 6) (o k a b : Int32) : OkW (constV pr o k a b) := by
  unfold constV
  split
  · trivial
  · rename_i cl hcl
    split
    · rename_i hal
      split
      · have hok := allowK_ok h6 hal
        have hmem : cl ∈ pr.1 := by
          obtain ⟨j, -, hj, e⟩ := lk_some (by omega) hcl
          exact List.mem_of_getElem? e
        refine ⟨fun dl hdl q hq => ?_, fun m hm => okM.ext (fun x dl hx => ?_) (h.2 m hm)⟩
        · simp only [List.length_set]
          rcases mem_set_cases hdl with rfl | h1
          · rcases List.mem_append.mp hq with h2 | h2
            · exact (h.1 cl hmem q h2).mono (Nat.le_refl _)
            · rw [List.mem_singleton] at h2; subst h2
              exact hok.mono (Nat.le_refl _)
          · exact h.1 dl h1 q hq
        · rw [lk_set hcl hx]
          by_cases e : o.toNatClampNeg = x.toNatClampNeg
          · rw [if_pos e]
            have : cl = dl := by
              unfold lk at hcl hx
              split at hcl
              · cases hcl
              · split at hx
                · cases hx
                · rw [e, hx] at hcl; cases hcl; rfl
            exact ⟨_, by rw [this]⟩
          · rw [if_neg e]; exact ⟨[], by rw [List.append_nil]⟩
      · trivial
    · trivial
theorem ar_cases {x : Int32} (h1 : ¬ x < -1) (h2 : x ≤ 2) : x = -1 ∨ x = 0 ∨ x = 1 ∨ x = 2 := by
  rw [Int32.lt_iff_toInt_lt, show (-1 : Int32).toInt = -1 by decide] at h1
  rw [Int32.le_iff_toInt_le, show (2 : Int32).toInt = 2 by decide] at h2
  simp only [← Int32.toInt_inj, show (-1 : Int32).toInt = -1 by decide, show (0 : Int32).toInt = 0 by decide, show (1 : Int32).toInt = 1 by decide, show (2 : Int32).toInt = 2 by decide]
  omega
theorem WF.memb (h : WF pr) (o nm ar : Int32) : OkW (membV pr o nm ar) := by
  unfold membV
  split
  · trivial
  · rename_i cl hcl
    split
    · rename_i hal
      split
      · unfold allowM at hal
        simp only [Bool.and_eq_true, Bool.not_eq_true', decide_eq_false_iff_not, decide_eq_true_eq] at hal
        refine ⟨h.1, fun m hm => ?_⟩
        rcases List.mem_append.mp hm with h1 | h1
        · exact okM.ext (PExt.rf _) (h.2 m h1)
        · rw [List.mem_singleton] at h1; subst h1
          obtain ⟨r, hr, e⟩ := holds_some hal.1
          exact ⟨⟨cl, r, hcl, hr, e⟩, ar_cases hal.2.1 hal.2.2.1, Or.inl rfl, fun _ => ⟨rfl, rfl⟩, fun i hi => by cases hi⟩
      · trivial
    · trivial
theorem wh_cases {w : Int32} (h : ¬ (w < 0 ∨ ¬ w ≤ 12)) : ∃ n : Nat, n < 13 ∧ w = nI n := by
  simp only [not_or, Classical.not_not] at h
  rcases pk_ix (n := 13) w (by decide) with h1 | h1 | ⟨j, hj, rfl⟩
  · exact absurd h1 h.1
  · have h2 := Int32.le_iff_toInt_le.mp h.2
    have h3 := Int32.le_iff_toInt_le.mp h1
    rw [show (12 : Int32).toInt = 12 by decide] at h2
    rw [nI_toInt (by decide)] at h3
    omega
  · exact ⟨j, hj, rfl⟩
theorem noMeth_no {m : Int32} (hm : lk pr.2 m = some b) (h : ¬ noMeth pr m = true) : ¬ b.2.2.1 = -1 := by
  intro e
  apply h
  unfold noMeth
  rw [hm]
  simp [isF, e]
theorem WF.setM (h : WF pr) (b' : MB) (n : Nat) (hb : okM pr b') : WF (pr.1, pr.2.set n b') := by
  refine ⟨h.1, fun m hm => ?_⟩
  rcases mem_set_cases hm with rfl | h1
  · exact okM.ext (PExt.rf _) hb
  · exact okM.ext (PExt.rf _) (h.2 m h1)
theorem lk_mem {α : Type} {l : List α} {x : Int32} {q : α} (h : lk l x = some q) : q ∈ l := by
  unfold lk at h
  split at h
  · cases h
  · exact List.mem_of_getElem? h
theorem WF.code (h : WF pr) (m w x : Int32) : OkW (codeV pr m w x) := by
  unfold codeV
  split
  · trivial
  · rename_i hno
    split
    · trivial
    · rename_i b hb
      split
      · trivial
      · rename_i hw
        split
        · obtain ⟨o1, o2, o3, o4, o5⟩ := h.2 b (lk_mem hb)
          refine WF.setM h _ _ ⟨o1, o2, o3, fun e => absurd (show b.2.2.1 = -1 from e) (noMeth_no (b := b) hb hno), fun i hi => ?_⟩
          rcases List.mem_append.mp hi with h1 | h1
          · exact o5 i h1
          · rw [List.mem_singleton] at h1; subst h1; exact wh_cases hw
        · trivial
theorem WF.entr (h : WF pr) {pr' : PR} (m is : Int32) (his : is = 0 ∨ is = 1) (he : entrV pr m is = some pr') : WF pr' := by
  unfold entrV at he
  split at he
  · cases he
  · rename_i hno
    split at he
    · cases he
    · rename_i b hb
      cases he
      obtain ⟨o1, o2, o3, o4, o5⟩ := h.2 b (lk_mem hb)
      exact WF.setM h _ _ ⟨o1, o2, his, fun e => absurd (show b.2.2.1 = -1 from e) (noMeth_no (b := b) hb hno), o5⟩
end PWF
