/-! the law's helpers: exceptions become codes -/
theorem ex_at (N : XM) (k : Nat) : xz N < xz (xnw N k 0 6) ∧ (xt (xnw N k 0 6) (xz N)).1 = k := by
  refine ⟨Nat.lt_succ_self _, ?_⟩
  show (if xz N = xz N then ((k, 0) : Nat × Nat) else _).1 = k
  rw [if_pos rfl]
theorem ex_no {N : XM} {k j : Nat} (h : k ≠ j) : ¬ (xz N < xz (xnw N k 0 6) ∧ (xt (xnw N k 0 6) (xz N)).1 = j) := fun e => h ((ex_at N k).2.symm.trans e.2)
section PCD
variable {M N : XM} {F : Int32 → XM → XP} {FV : XM → XP}
theorem w1 {k : Nat} (hz : xz N = xz M) : hI (some (.inr (xz M), xnw N k 0 6)) F (fun a5 M6 => if a5 < xz M6 ∧ (xt M6 a5).1 = k then (some (.inl (some (.int 1)), M6)) else none) = rI 1 (xnw N k 0 6) := by
  rw [hI_x, ← hz]
  exact if_pos (ex_at N k)
theorem w1V {k : Nat} (hz : xz N = xz M) : hV (some (.inr (xz M), xnw N k 0 6)) FV (fun a5 M6 => if a5 < xz M6 ∧ (xt M6 a5).1 = k then (some (.inl (some (.int 1)), M6)) else none) = rI 1 (xnw N k 0 6) := by
  rw [hV_x, ← hz]
  exact if_pos (ex_at N k)
theorem w2 {e : Nat} (he : e = 1 ∨ e = 2) (hz : xz N = xz M) : hI (some (.inr (xz M), xnw N (40 + e) 0 6)) F (fun a5 M6 => if a5 < xz M6 ∧ (xt M6 a5).1 = 41 then (some (.inl (some (.int 1)), M6)) else if a5 < xz M6 ∧ (xt M6 a5).1 = 42 then (some (.inl (some (.int 2)), M6)) else none) = rI (nI e) (xnw N (40 + e) 0 6) := by
  rw [hI_x, ← hz]
  rcases he with rfl | rfl
  · exact if_pos (ex_at N 41)
  · exact (if_neg (ex_no (by decide))).trans (if_pos (ex_at N 42))
theorem w3 {e : Nat} (he : e = 0 ∨ e = 1 ∨ e = 2) (hz : xz N = xz M) : hI (some (.inr (xz M), xnw N (40 + e) 0 6)) F (fun a5 M6 => if a5 < xz M6 ∧ (xt M6 a5).1 = 41 then (some (.inl (some (.int 1)), M6)) else if a5 < xz M6 ∧ (xt M6 a5).1 = 42 then (some (.inl (some (.int 2)), M6)) else if a5 < xz M6 ∧ (xt M6 a5).1 = 40 then (some (.inl (some (.int 3)), M6)) else none) = rI (nI (ec3 e)) (xnw N (40 + e) 0 6) := by
  rw [hI_x, ← hz]
  rcases he with rfl | rfl | rfl
  · exact (if_neg (ex_no (by decide))).trans ((if_neg (ex_no (by decide))).trans (if_pos (ex_at N 40)))
  · exact if_pos (ex_at N 41)
  · exact (if_neg (ex_no (by decide))).trans (if_pos (ex_at N 42))
theorem w5 {e : Nat} (he : e < 5) (hz : xz N = xz M) : hI (some (.inr (xz M), xnw N (40 + e) 0 6)) F (fun a5 M6 => if a5 < xz M6 ∧ (xt M6 a5).1 = 41 then (some (.inl (some (.int 1)), M6)) else if a5 < xz M6 ∧ (xt M6 a5).1 = 42 then (some (.inl (some (.int 2)), M6)) else if a5 < xz M6 ∧ (xt M6 a5).1 = 43 then (some (.inl (some (.int 3)), M6)) else if a5 < xz M6 ∧ (xt M6 a5).1 = 44 then (some (.inl (some (.int 4)), M6)) else if a5 < xz M6 ∧ (xt M6 a5).1 = 40 then (some (.inl (some (.int 5)), M6)) else none) = rI (nI (ec5 e)) (xnw N (40 + e) 0 6) := by
  rw [hI_x, ← hz]
  rcases (show e = 0 ∨ e = 1 ∨ e = 2 ∨ e = 3 ∨ e = 4 by omega) with rfl | rfl | rfl | rfl | rfl
  · exact (if_neg (ex_no (by decide))).trans ((if_neg (ex_no (by decide))).trans ((if_neg (ex_no (by decide))).trans ((if_neg (ex_no (by decide))).trans (if_pos (ex_at N 40)))))
  · exact if_pos (ex_at N 41)
  · exact (if_neg (ex_no (by decide))).trans (if_pos (ex_at N 42))
  · exact (if_neg (ex_no (by decide))).trans ((if_neg (ex_no (by decide))).trans (if_pos (ex_at N 43)))
  · exact (if_neg (ex_no (by decide))).trans ((if_neg (ex_no (by decide))).trans ((if_neg (ex_no (by decide))).trans (if_pos (ex_at N 44))))
/-- an answer goes into the long row -/
theorem wok {v : Int32} {G : Nat → XM → XP} (hL : Lay N) : hI (rI v N) (fun t3 M2 => sJ M2 296 0 ((t3).toInt64) fun M4 => some (.inl (some (.int 0)), M4)) G = rI 0 (xpj N 296 0 v.toInt64) := by
  have hz := hL.1
  rw [hI_e]
  exact sJ_e (i := 0) (by omega) hL.2.2.2.2.2.2.1 (by decide) (by decide)
/-- the end of a law's step: the reference's code and answer are the class's -/
theorem w_end {M5 K : XM} {r23 : Nat → Nat → Nat → Nat → Int32 → XM → XP} {v0 : Nat} {v4 k v : Int32} (hA : RefAt K) (hz : 297 ≤ xz K) (ht : xt K 296 = (2, 1)) (hc : xi K 268 0 = k) (hv : k = 0 → xj K 296 0 = v.toInt64) :
    (rv K 27 268 <| cI (g_R_thrown 268 K) fun t9 M8 => if t9 = k then (if ¬ k = 0 then (r23 v0 1 268 296 (v4 + 5) M8) else aJ M8 296 0 fun t10 => if (lg_cmp t10 (v).toInt64) = 0 then (r23 v0 1 268 296 (v4 + 5) M8) else z01 0 (some (.inl (some (.int 0)), M8))) else z01 0 (some (.inl (some (.int 0)), M8))) = r23 v0 1 268 296 (v4 + 5) K := by
  rw [rv27 hA, s_R_thrown hA, cI_e, if_pos hc]
  by_cases h0 : k = 0
  · rw [if_neg (fun h => h h0), show aJ K 296 0 _ = _ from aJ_e (i := 0) (by omega) ht (by decide) (by decide), hv h0]
    have : lg_cmp v.toInt64 v.toInt64 = 0 := by unfold lg_cmp; simp
    rw [if_pos this]
  · rw [if_pos h0]
end PCD
