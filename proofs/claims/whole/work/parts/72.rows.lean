/-! the constructors: a memory that grows, the references of one cell set -/
def Gw (w : Nat) (M N : XM) : Prop := xz M ≤ xz N ∧ ∀ a, a < xz M → xt N a = xt M a ∧ xi N a = xi M a ∧ (a ≠ w → xr N a = xr M a)
theorem Gw.rf {w : Nat} {M : XM} : Gw w M M := ⟨Nat.le_refl _, fun _ _ => ⟨rfl, rfl, fun _ => rfl⟩⟩
theorem Gw.tr {w : Nat} {M N K : XM} (h : Gw w M N) (g : Gw w N K) : Gw w M K := by
  refine ⟨Nat.le_trans h.1 g.1, fun a ha => ?_⟩
  have h1 := h.2 a ha
  have g1 := g.2 a (Nat.lt_of_lt_of_le ha h.1)
  exact ⟨g1.1.trans h1.1, g1.2.1.trans h1.2.1, fun hw => (g1.2.2 hw).trans (h1.2.2 hw)⟩
theorem Gw.new {w w' : Nat} {M N : XM} (h : Gw w M N) (hw : xz M ≤ w) : Gw w' M N :=
  ⟨h.1, fun a ha => ⟨(h.2 a ha).1, (h.2 a ha).2.1, fun _ => (h.2 a ha).2.2 (by omega)⟩⟩
theorem Gw.on {w w' : Nat} {M N K : XM} (h : Gw w M N) (g : Gw w' N K) (hw : xz M ≤ w') : Gw w M K := by
  refine ⟨Nat.le_trans h.1 g.1, fun a ha => ?_⟩
  have h1 := h.2 a ha
  have g1 := g.2 a (Nat.lt_of_lt_of_le ha h.1)
  exact ⟨g1.1.trans h1.1, g1.2.1.trans h1.2.1, fun hw => (g1.2.2 (by omega)).trans (h1.2.2 hw)⟩
theorem Gw.nw {w k n u : Nat} {M : XM} : Gw w M (xnw M k n u) := by
  refine ⟨Nat.le_succ _, fun a ha => ⟨?_, ?_, fun _ => ?_⟩⟩
  · show (if a = xz M then _ else _) = _
    rw [if_neg (by omega)]
  · funext j
    show (if a = xz M then _ else _) = _
    rw [if_neg (by omega)]
  · funext j
    show (if a = xz M then _ else _) = _
    rw [if_neg (by omega)]
theorem Gw.pr {w i v : Nat} {M N : XM} (h : Gw w M N) : Gw w M (xpr N w i v) := by
  refine ⟨h.1, fun a ha => ⟨(h.2 a ha).1, (h.2 a ha).2.1, fun hw => ?_⟩⟩
  rw [← (h.2 a ha).2.2 hw]
  funext j
  exact xr_ne (Or.inl hw)
theorem z_pr {M : XM} {a i v : Nat} : xz (xpr M a i v) = xz M := rfl
theorem u_pr {M : XM} {a i v : Nat} : xu (xpr M a i v) = xu M := rfl
theorem t_pr {M : XM} {a i v : Nat} : xt (xpr M a i v) = xt M := rfl
theorem i_pr {M : XM} {a i v : Nat} : xi (xpr M a i v) = xi M := rfl
theorem z_nw {M : XM} {k n u : Nat} : xz (xnw M k n u) = xz M + 1 := rfl
theorem u_nw {M : XM} {k n u : Nat} : xu (xnw M k n u) = xu M + u := rfl
theorem nw_t {M : XM} {k n u : Nat} : xt (xnw M k n u) (xz M) = (k, n) := by
  show (if xz M = xz M then _ else _) = _
  rw [if_pos rfl]
theorem nw_i {M : XM} {k n u : Nat} : xi (xnw M k n u) (xz M) = fun _ => 0 := by
  funext j
  show (if xz M = xz M then _ else _) = _
  rw [if_pos rfl]
/-! rows made one after the other, each put into a field -/
def rowM (v0 : Nat) : List (Nat × Nat × Nat) → XM → XM
  | [], M => M
  | q :: l, M => rowM v0 l (xpr (xnw M q.2.1 q.2.2 q.2.2) v0 q.1 (xz M))
def rowP (k v0 : Nat) : List (Nat × Nat × Nat) → XM → (XM → XP) → XP
  | [], M, F => F M
  | q :: l, M, F => nA M q.2.1 (nI q.2.2) fun t M2 => uR M2 k v0 q.1 t fun M3 => rowP k v0 l M3 F
def rowU : List (Nat × Nat × Nat) → Nat
  | [] => 0
  | q :: l => q.2.2 + rowU l
theorem rowM_e {v0 : Nat} : ∀ (l : List (Nat × Nat × Nat)) (M : XM), xz (rowM v0 l M) = xz M + l.length ∧ xu (rowM v0 l M) = xu M + rowU l ∧ Gw v0 M (rowM v0 l M)
  | [], M => ⟨rfl, rfl, Gw.rf⟩
  | q :: l, M => by
    obtain ⟨h1, h2, h3⟩ := rowM_e l (xpr (xnw M q.2.1 q.2.2 q.2.2) v0 q.1 (xz M))
    refine ⟨?_, ?_, ?_⟩
    · refine h1.trans ?_
      show xz M + 1 + l.length = xz M + (l.length + 1)
      omega
    · refine h2.trans ?_
      show xu M + q.2.2 + rowU l = xu M + (q.2.2 + rowU l)
      omega
    · exact (Gw.nw.pr).tr h3
theorem rowP_e {k v0 n : Nat} {F : XM → XP} : ∀ (l : List (Nat × Nat × Nat)) (M : XM), v0 < xz M → xt M v0 = (k, n) → (∀ q ∈ l, q.2.2 ≤ 100000) → xz M + l.length ≤ ZM → xu M + rowU l ≤ UM → rowP k v0 l M F = F (rowM v0 l M)
  | [], M, _, _, _, _, _ => rfl
  | q :: l, M, h1, h2, h3, h4, h5 => by
    have h4' : xz M + (l.length + 1) ≤ ZM := h4
    have h5' : xu M + (q.2.2 + rowU l) ≤ UM := h5
    have g : Gw v0 M (xnw M q.2.1 q.2.2 q.2.2) := Gw.nw
    have ht : xt (xnw M q.2.1 q.2.2 q.2.2) v0 = (k, n) := (g.2 v0 h1).1.trans h2
    show (nA M q.2.1 (nI q.2.2) fun t M2 => uR M2 k v0 q.1 t fun M3 => rowP k v0 l M3 F) = _
    rw [nA_e (h3 q List.mem_cons_self) (by omega) (by omega), uR_e (Nat.lt_of_lt_of_le h1 g.1) ht]
    exact rowP_e l _ (Nat.lt_of_lt_of_le h1 g.1) ht (fun q' hq => h3 q' (List.mem_cons_of_mem _ hq)) (by show xz M + 1 + l.length ≤ ZM; omega) (by show xu M + q.2.2 + rowU l ≤ UM; omega)
theorem rowM_new {v0 : Nat} : ∀ (l : List (Nat × Nat × Nat)) (M : XM) (i : Nat) (q : Nat × Nat × Nat), l[i]? = some q → xt (rowM v0 l M) (xz M + i) = q.2 ∧ xi (rowM v0 l M) (xz M + i) = fun _ => 0
  | [], _, _, _, h => by cases h
  | q :: l, M, 0, q', h => by
    have e : q = q' := by simpa using h
    subst e
    have g := (rowM_e (v0 := v0) l (xpr (xnw M q.2.1 q.2.2 q.2.2) v0 q.1 (xz M))).2.2.2 (xz M) (Nat.lt_succ_self _)
    exact ⟨g.1.trans (nw_t (k := q.2.1) (n := q.2.2) (u := q.2.2)), g.2.1.trans (nw_i (k := q.2.1) (n := q.2.2) (u := q.2.2))⟩
  | q :: l, M, i + 1, q', h => by
    have h' : l[i]? = some q' := by simpa using h
    have g := rowM_new (v0 := v0) l (xpr (xnw M q.2.1 q.2.2 q.2.2) v0 q.1 (xz M)) i q' h'
    have e : xz (xpr (xnw M q.2.1 q.2.2 q.2.2) v0 q.1 (xz M)) + i = xz M + (i + 1) := by
      show xz M + 1 + i = xz M + (i + 1)
      omega
    rw [e] at g
    exact g
theorem rowM_oth {v0 j : Nat} : ∀ (l : List (Nat × Nat × Nat)) (M : XM), v0 < xz M → (∀ q ∈ l, q.1 ≠ j) → xr (rowM v0 l M) v0 j = xr M v0 j
  | [], _, _, _ => rfl
  | q :: l, M, h, hj => by
    have e := rowM_oth (j := j) l (xpr (xnw M q.2.1 q.2.2 q.2.2) v0 q.1 (xz M)) (Nat.lt_of_lt_of_le h (Nat.le_succ _)) (fun q' hq => hj q' (List.mem_cons_of_mem _ hq))
    have g : Gw (v0 + 1) M (xnw M q.2.1 q.2.2 q.2.2) := Gw.nw
    refine e.trans ((xr_ne (Or.inr (Ne.symm (hj q List.mem_cons_self)))).trans ?_)
    rw [(g.2 v0 h).2.2 (by omega)]
theorem rowM_ref {v0 : Nat} : ∀ (l : List (Nat × Nat × Nat)) (M : XM) (i : Nat) (q : Nat × Nat × Nat), v0 < xz M → (l.map Prod.fst).Nodup → l[i]? = some q → xr (rowM v0 l M) v0 q.1 = some (xz M + i)
  | [], _, _, _, _, _, h => by cases h
  | q :: l, M, 0, q', hv, hn, h => by
    have e : q = q' := by simpa using h
    subst e
    have hn' := (List.nodup_cons.mp hn).1
    exact (rowM_oth (j := q.1) l _ (Nat.lt_of_lt_of_le hv (Nat.le_succ _)) (fun q' hq he => hn' (List.mem_map.mpr ⟨q', hq, he⟩))).trans (xr_eq _ _ _ _)
  | q :: l, M, i + 1, q', hv, hn, h => by
    have h' : l[i]? = some q' := by simpa using h
    have g := rowM_ref (v0 := v0) l (xpr (xnw M q.2.1 q.2.2 q.2.2) v0 q.1 (xz M)) i q' (Nat.lt_of_lt_of_le hv (Nat.le_succ _)) (List.nodup_cons.mp hn).2 h'
    refine g.trans ?_
    show some (xz M + 1 + i) = some (xz M + (i + 1))
    rw [Nat.add_assoc, Nat.add_comm 1]
/-! objects with rows, made in a loop and put into a row -/
def ObjAt (ci : Nat) (l : List (Nat × Nat × Nat)) (M : XM) (a : Nat) : Prop := a + l.length < xz M ∧ xt M a = (20 + ci, 0) ∧ ∀ (i : Nat) (q : Nat × Nat × Nat), l[i]? = some q → xt M (a + 1 + i) = q.2 ∧ xr M a q.1 = some (a + 1 + i)
theorem ObjAt.gr {ci w a : Nat} {l : List (Nat × Nat × Nat)} {M N : XM} (h : ObjAt ci l M a) (g : Gw w M N) (hw : a ≠ w) : ObjAt ci l N a := by
  obtain ⟨h1, h2, h3⟩ := h
  refine ⟨Nat.lt_of_lt_of_le h1 g.1, (g.2 a (by omega)).1.trans h2, fun i q hq => ?_⟩
  have hi : i < l.length := (List.getElem?_eq_some_iff.mp hq).1
  refine ⟨(g.2 _ (by omega)).1.trans (h3 i q hq).1, ?_⟩
  rw [(g.2 a (by omega)).2.2 hw]
  exact (h3 i q hq).2
theorem mk_obj {ci nf kd len w c : Nat} {l : List (Nat × Nat × Nat)} {ini : Nat → XM → XP} {M : XM} (hini : ∀ v M, ini v M = rowP (20 + ci) v l M fun M => some (.inl none, M)) (hl : ∀ q ∈ l, q.2.2 ≤ 100000) (hn : (l.map Prod.fst).Nodup) (hw : w < xz M) (ht : xt M w = (kd, len)) (hc : c < len) (hlen : len < 1000)
    (hz : xz M + (1 + l.length) ≤ ZM) (hu : xu M + (nf + rowU l) ≤ UM) : ∃ N, (∀ F : XM → XP, (nO M (20 + ci) nf fun t2 M3 => cV (ini t2 M3) fun M4 => sR M4 kd ci w (nI c) t2 F) = F N) ∧ xz N = xz M + (1 + l.length) ∧ xu N = xu M + (nf + rowU l) ∧ Gw w M N ∧ ObjAt ci l N (xz M) ∧ xr N w c = some (xz M) ∧ ∀ j, j ≠ c → xr N w j = xr M w j := by
  obtain ⟨r1, r2, r3⟩ := rowM_e (v0 := xz M) l (xnw M (20 + ci) 0 nf)
  have q1 : xz (xnw M (20 + ci) 0 nf) = xz M + 1 := rfl
  have q2 : xu (xnw M (20 + ci) 0 nf) = xu M + nf := rfl
  have t0 : xt (xnw M (20 + ci) 0 nf) (xz M) = (20 + ci, 0) := nw_t
  have g : Gw w M (rowM (xz M) l (xnw M (20 + ci) 0 nf)) := (Gw.nw.tr r3).new (Nat.le_refl _)
  have t1 := (r3.2 (xz M) (by omega)).1.trans t0
  refine ⟨xpr (rowM (xz M) l (xnw M (20 + ci) 0 nf)) w c (xz M), fun F => ?_, ?_, ?_, g.pr, ⟨?_, t1, fun i q hq => ⟨?_, ?_⟩⟩, xr_eq _ _ _ _, fun j hj => (xr_ne (Or.inr hj)).trans ?_⟩
  · rw [nO_e (by omega) (by omega), hini, rowP_e l _ (by omega) t0 hl (by omega) (by omega), cV_e, sR_e (by omega) ((g.2 w hw).1.trans ht) hc (by omega) (by omega) t1]
  · show xz (rowM (xz M) l (xnw M (20 + ci) 0 nf)) = _
    omega
  · show xu (rowM (xz M) l (xnw M (20 + ci) 0 nf)) = _
    omega
  · show _ < xz (rowM (xz M) l (xnw M (20 + ci) 0 nf))
    omega
  · have e := (rowM_new (v0 := xz M) l (xnw M (20 + ci) 0 nf) i q hq).1
    rw [q1] at e
    exact e
  · have e := rowM_ref (v0 := xz M) l (xnw M (20 + ci) 0 nf) i q (by omega) hn hq
    rw [q1] at e
    exact (xr_ne (Or.inl (by omega))).trans e
  · show xr (rowM (xz M) l (xnw M (20 + ci) 0 nf)) w j = _
    have e := ((Gw.nw.tr r3 : Gw (xz M) M _).2 w hw).2.2 (by omega)
    rw [e]
theorem mk_loop {kp fld ci nf kd len w P m : Nat} {lim : Int32} {l : List (Nat × Nat × Nat)} {ini : Nat → XM → XP} {lp : Nat → Nat → Int32 → XM → XP} {nxt : XM → XP} (hini : ∀ v M, ini v M = rowP (20 + ci) v l M fun M => some (.inl none, M))
    (hlp : ∀ n v1 M, lp (n + 1) P v1 M = if lim ≤ v1 then nxt M else gR M kp P fld fun t1 => nO M (20 + ci) nf fun t2 M3 => cV (ini t2 M3) fun M4 => sR M4 kd ci t1 v1 t2 fun M5 => lp n P (v1 + 1) M5) (hlim : lim = nI len)
    (hl : ∀ q ∈ l, q.2.2 ≤ 100000) (hn : (l.map Prod.fst).Nodup) (hlen : len < 1000) (hPw : P ≠ w) : ∀ (k c : Nat) (M : XM), c + k = len → P < xz M → w < xz M → xt M P = (kp, m) → xt M w = (kd, len) → xr M P fld = some w → xz M + k * (1 + l.length) ≤ ZM → xu M + k * (nf + rowU l) ≤ UM → ∀ n, k < n →
      ∃ N, lp n P (nI c) M = nxt N ∧ xz N = xz M + k * (1 + l.length) ∧ xu N = xu M + k * (nf + rowU l) ∧ Gw w M N ∧ (∀ d, d < k → ObjAt ci l N (xz M + d * (1 + l.length)) ∧ xr N w (c + d) = some (xz M + d * (1 + l.length))) ∧ ∀ j, j < c → xr N w j = xr M w j := by
  subst hlim
  intro k
  induction k with
  | zero =>
    intro c M hc hP hw _ _ _ _ _ n hk
    obtain ⟨n', rfl⟩ : ∃ n', n = n' + 1 := ⟨n - 1, by omega⟩
    rw [hlp, if_pos (nI_le (by omega) (by omega))]
    exact ⟨M, rfl, by omega, by omega, Gw.rf, fun d hd => absurd hd (by omega), fun _ _ => rfl⟩
  | succ k ih =>
    intro c M hc hP hw hp ht hr hz hu n hk
    obtain ⟨n', rfl⟩ : ∃ n', n = n' + 1 := ⟨n - 1, by omega⟩
    have e1 : (k + 1) * (1 + l.length) = k * (1 + l.length) + (1 + l.length) := Nat.succ_mul k _
    have e2 : (k + 1) * (nf + rowU l) = k * (nf + rowU l) + (nf + rowU l) := Nat.succ_mul k _
    obtain ⟨N1, a1, a2, a3, a4, a5, a6, a7⟩ := mk_obj (c := c) (nf := nf) hini hl hn hw ht (by omega) hlen (by omega) (by omega)
    have b1 := a4.2 P hP
    have b2 := a4.2 w hw
    rw [hlp, if_neg (nI_ge (by omega) (by omega)), gR_e hP hp hr, a1, nI_1]
    obtain ⟨N, n1, n2, n3, n4, n5, n6⟩ := ih (c + 1) N1 (by omega) (by omega) (by omega) (b1.1.trans hp) (b2.1.trans ht) (by rw [b1.2.2 hPw]; exact hr) (by omega) (by omega) n' (by omega)
    refine ⟨N, n1, by omega, by omega, a4.tr n4, fun d hd => ?_, fun j hj => ?_⟩
    · cases d with
      | zero =>
        rw [Nat.zero_mul, Nat.add_zero, Nat.add_zero]
        exact ⟨a5.gr n4 (by omega), by rw [n6 c (by omega)]; exact a6⟩
      | succ d =>
        have e3 : (d + 1) * (1 + l.length) = d * (1 + l.length) + (1 + l.length) := Nat.succ_mul d _
        have e4 : xz M + (d + 1) * (1 + l.length) = xz N1 + d * (1 + l.length) := by omega
        rw [e4, show c + (d + 1) = c + 1 + d by omega]
        exact n5 d (by omega)
    · rw [n6 j (by omega)]
      exact a7 j (by omega)
/-! a program, the machine -/
theorem Q_rows (v : Nat) (M : XM) : g_Q_init v M = rowP (20 + 2) v [(0, 0, 20), (1, 0, 20), (2, 0, 20)] M fun M => some (.inl none, M) := rfl
theorem B_rows (v : Nat) (M : XM) : g_B_init v M = rowP (20 + 3) v [(5, 0, 20), (6, 0, 20)] M fun M => some (.inl none, M) := rfl
theorem F_rows (v : Nat) (M : XM) : g_F_init v M = rowP (20 + 5) v [(0, 0, 8)] M fun M => some (.inl none, M) := rfl
theorem P_rows (v : Nat) (M : XM) : g_P_init v M = rowP 21 v [(0, 10, 6), (1, 11, 30)] M fun M => g_P_init_24 FU v 0 M := rfl
theorem E_rows (v : Nat) (M : XM) : g_E_init v M = rowP 26 v [(0, 0, 30), (1, 12, 8)] M fun M => g_E_init_23 FU v 0 M := rfl
theorem FU_lt {k : Nat} (h : k < 1000) : k < FU := Nat.lt_of_lt_of_le h (by decide)
theorem ZM_e : ZM = 601025 := rfl
theorem UM_e : UM = 7293034 := rfl
theorem mk_P {P : Nat} {M : XM} (hz : xz M = P + 1) (ht : xt M P = (21, 0)) (hP : P ≤ 119) (hu : xu M ≤ 1000000) : ∃ N, g_P_init P M = rV N ∧ xz N = P + 117 ∧ xu N = xu M + 1830 ∧ Gw P M N ∧ ProgAt N P := by
  have hZ := ZM_e
  have hU := UM_e
  obtain ⟨r1, r2, r3⟩ := rowM_e (v0 := P) [(0, 10, 6), (1, 11, 30)] M
  have w0 := rowM_new (v0 := P) [(0, 10, 6), (1, 11, 30)] M 0 _ rfl
  have w1 := rowM_new (v0 := P) [(0, 10, 6), (1, 11, 30)] M 1 _ rfl
  have f0 := rowM_ref (v0 := P) [(0, 10, 6), (1, 11, 30)] M 0 _ (by omega) (by decide) rfl
  have f1 := rowM_ref (v0 := P) [(0, 10, 6), (1, 11, 30)] M 1 _ (by omega) (by decide) rfl
  have t0 := (r3.2 P (by omega)).1.trans ht
  rw [P_rows, rowP_e _ M (by omega) ht (by decide) (by show _ + 2 ≤ _; omega) (by show _ + 36 ≤ _; omega)]
  generalize rowM P [(0, 10, 6), (1, 11, 30)] M = M1 at *
  have r1' : xz M1 = P + 3 := by rw [r1, hz]; rfl
  have r2' : xu M1 = xu M + 36 := r2
  rw [hz] at w0 w1 f0 f1
  obtain ⟨N1, a1, a2, a3, a4, a5, a6⟩ := mk_loop (kp := 21) (fld := 0) (ci := 2) (nf := 4) (kd := 10) (len := 6) (lim := 6) (lp := g_P_init_24) (P := P) (w := P + 1) Q_rows (fun n v1 M => rfl) rfl (by decide) (by decide) (by decide) (by omega) 6 0 M1 rfl (by omega) (by omega) t0 w0.1 f0 (by show _ + 24 ≤ _; omega) (by show _ + 384 ≤ _; omega) FU (FU_lt (by decide))
  have a2' : xz N1 = xz M1 + 24 := a2
  have a3' : xu N1 = xu M1 + 384 := a3
  have p0 := a4.2 P (by omega)
  have p1 := a4.2 (P + 1) (by omega)
  have p2 := a4.2 (P + 2) (by omega)
  obtain ⟨N, b1, b2, b3, b4, b5, b6⟩ := mk_loop (kp := 21) (fld := 1) (ci := 3) (nf := 7) (kd := 11) (len := 30) (lim := 30) (lp := g_P_init_51) (P := P) (w := P + 2) B_rows (fun n v1 M => rfl) rfl (by decide) (by decide) (by decide) (by omega) 30 0 N1 rfl (by omega) (by omega) (p0.1.trans t0) (p2.1.trans w1.1) (by rw [p0.2.2 (by omega)]; exact f1) (by show _ + 90 ≤ _; omega) (by show _ + 1410 ≤ _; omega) FU (FU_lt (by decide))
  have b2' : xz N = xz N1 + 90 := b2
  have b3' : xu N = xu N1 + 1410 := b3
  have q0 := b4.2 P (by omega)
  have q1 := b4.2 (P + 1) (by omega)
  have q2 := b4.2 (P + 2) (by omega)
  refine ⟨N, a1.trans b1, by omega, by omega, (r3.on a4 (by omega)).on b4 (by omega), by omega, q0.1.trans (p0.1.trans t0), q1.1.trans (p1.1.trans w0.1), q2.1.trans (p2.1.trans w1.1), ?_, ?_, fun c hc => ?_, fun m hm => ?_⟩
  · rw [q0.2.2 (by omega), p0.2.2 (by omega)]; exact f0
  · rw [q0.2.2 (by omega), p0.2.2 (by omega)]; exact f1
  · obtain ⟨o, e⟩ := a5 c hc
    have o' := o.gr b4 (by show _ + c * 4 ≠ _; omega)
    have ea : xz M1 + c * (1 + [((0 : Nat), (0 : Nat), (20 : Nat)), (1, 0, 20), (2, 0, 20)].length) = P + 3 + 4 * c := by
      show _ + c * 4 = _
      omega
    rw [ea] at o' e
    rw [Nat.zero_add] at e
    refine ⟨by rw [q1.2.2 (by omega)]; exact e, by omega, o'.2.1, (o'.2.2 0 _ rfl).1, (o'.2.2 1 _ rfl).1, (o'.2.2 2 _ rfl).1, (o'.2.2 0 _ rfl).2, (o'.2.2 1 _ rfl).2, (o'.2.2 2 _ rfl).2⟩
  · obtain ⟨o, e⟩ := b5 m hm
    have ea : xz N1 + m * (1 + [((5 : Nat), (0 : Nat), (20 : Nat)), (6, 0, 20)].length) = P + 27 + 3 * m := by
      show _ + m * 3 = _
      omega
    rw [ea] at o e
    rw [Nat.zero_add] at e
    exact ⟨e, by omega, o.2.1, (o.2.2 0 _ rfl).1, (o.2.2 1 _ rfl).1, (o.2.2 0 _ rfl).2, (o.2.2 1 _ rfl).2⟩
theorem mk_E {M : XM} (hz : xz M = 250) (ht : xt M 249 = (26, 0)) (hu : xu M ≤ 1000000) : ∃ N, g_E_init 249 M = rV N ∧ xz N = 268 ∧ xu N = xu M + 150 ∧ Gw 249 M N ∧ MachAt N := by
  have hZ := ZM_e
  have hU := UM_e
  obtain ⟨r1, r2, r3⟩ := rowM_e (v0 := 249) [(0, 0, 30), (1, 12, 8)] M
  have w0 := rowM_new (v0 := 249) [(0, 0, 30), (1, 12, 8)] M 0 _ rfl
  have w1 := rowM_new (v0 := 249) [(0, 0, 30), (1, 12, 8)] M 1 _ rfl
  have f0 := rowM_ref (v0 := 249) [(0, 0, 30), (1, 12, 8)] M 0 _ (by omega) (by decide) rfl
  have f1 := rowM_ref (v0 := 249) [(0, 0, 30), (1, 12, 8)] M 1 _ (by omega) (by decide) rfl
  have t0 := (r3.2 249 (by omega)).1.trans ht
  rw [E_rows, rowP_e _ M (by omega) ht (by decide) (by show _ + 2 ≤ _; omega) (by show _ + 38 ≤ _; omega)]
  generalize rowM 249 [(0, 0, 30), (1, 12, 8)] M = M1 at *
  have r1' : xz M1 = 252 := by rw [r1, hz]; rfl
  have r2' : xu M1 = xu M + 38 := r2
  rw [hz] at w0 w1 f0 f1
  obtain ⟨N, b1, b2, b3, b4, b5, b6⟩ := mk_loop (kp := 26) (fld := 1) (ci := 5) (nf := 6) (kd := 12) (len := 8) (lim := 8) (lp := g_E_init_23) (nxt := fun M => some (.inl none, M)) (P := 249) (w := 251) F_rows (fun n v1 M => rfl) rfl (by decide) (by decide) (by decide) (by omega) 8 0 M1 rfl (by omega) (by omega) t0 w1.1 f1 (by show _ + 16 ≤ _; omega) (by show _ + 112 ≤ _; omega) FU (FU_lt (by decide))
  have b2' : xz N = xz M1 + 16 := b2
  have b3' : xu N = xu M1 + 112 := b3
  have q0 := b4.2 249 (by omega)
  have q1 := b4.2 250 (by omega)
  have q2 := b4.2 251 (by omega)
  refine ⟨N, b1, by omega, by omega, r3.on b4 (by omega), by omega, q0.1.trans t0, q1.1.trans w0.1, q2.1.trans w1.1, ?_, ?_, fun f hf => ?_⟩
  · rw [q0.2.2 (by omega)]; exact f0
  · rw [q0.2.2 (by omega)]; exact f1
  · obtain ⟨o, e⟩ := b5 f hf
    have ea : xz M1 + f * (1 + [((0 : Nat), (0 : Nat), (8 : Nat))].length) = 252 + 2 * f := by
      show _ + f * 2 = _
      omega
    have eb : 252 + 2 * f + 1 + 0 = 253 + 2 * f := by omega
    rw [ea] at o e
    rw [Nat.zero_add] at e
    have o1 := o.2.2 0 _ rfl
    rw [eb] at o1
    exact ⟨e, o.2.1, o1.1, o1.2⟩
/-! the shaker -/
theorem K_rows (v : Nat) (M : XM) : g_K_init v M = rowP 24 v [(0, 0, 30), (1, 0, 6)] M fun M6 => mA M6 6 20 fun t7 M8 => uR M8 24 v 2 t7 fun M9 => rowP 24 v [(3, 0, 100), (4, 0, 100), (5, 0, 30)] M9 fun M18 => gR M18 24 v 0 fun t19 => cV (g_A_fill t19 (-1) M18) fun M20 => some (.inl none, M20) := rfl
theorem xfl_rows (M : XM) (a : Nat) : xfl M a 20 6 = rowM a [(0, 0, 20), (1, 0, 20), (2, 0, 20), (3, 0, 20), (4, 0, 20), (5, 0, 20)] M := rfl
theorem mA_e {M : XM} {F : Nat → XM → XP} (h1 : xz M + 7 ≤ ZM) (h2 : xu M + 126 ≤ UM) : mA M 6 20 F = F (xz M) (xfl (xnw M 13 6 6) (xz M) 20 6) := by
  have e6 : (6 : Int32).toNatClampNeg = 6 := nI_clamp (n := 6) (by decide)
  have e20 : (20 : Int32).toNatClampNeg = 20 := nI_clamp (n := 20) (by decide)
  unfold mA
  rw [e6, e20, if_pos ⟨⟨by decide, by decide, by decide, by decide⟩, h1, h2⟩]
theorem mk_K {M : XM} (hz : xz M = 237) (ht : xt M 236 = (24, 0)) (hu : xu M ≤ 1000000) : ∃ N, g_K_init 236 M = rV N ∧ xz N = 249 ∧ xu N = xu M + 392 ∧ Gw 236 M N ∧ ShakAt N ∧ ∀ m, m < 30 → xi N 237 m = -1 := by
  have hZ := ZM_e
  have hU := UM_e
  obtain ⟨r1, r2, r3⟩ := rowM_e (v0 := 236) [(0, 0, 30), (1, 0, 6)] M
  have w0 := rowM_new (v0 := 236) [(0, 0, 30), (1, 0, 6)] M 0 _ rfl
  have w1 := rowM_new (v0 := 236) [(0, 0, 30), (1, 0, 6)] M 1 _ rfl
  have f0 := rowM_ref (v0 := 236) [(0, 0, 30), (1, 0, 6)] M 0 _ (by omega) (by decide) rfl
  have f1 := rowM_ref (v0 := 236) [(0, 0, 30), (1, 0, 6)] M 1 _ (by omega) (by decide) rfl
  have t0 := (r3.2 236 (by omega)).1.trans ht
  rw [K_rows, rowP_e _ M (by omega) ht (by decide) (by show _ + 2 ≤ _; omega) (by show _ + 36 ≤ _; omega)]
  generalize rowM 236 [(0, 0, 30), (1, 0, 6)] M = M1 at *
  have r1' : xz M1 = 239 := by rw [r1, hz]; rfl
  have r2' : xu M1 = xu M + 36 := r2
  rw [hz] at w0 w1 f0 f1
  rw [mA_e (by omega) (by omega), xfl_rows, r1']
  have g2 : Gw 239 M1 (xnw M1 13 6 6) := Gw.nw
  have v0 : xt (xnw M1 13 6 6) 239 = (13, 6) := by
    have e := nw_t (M := M1) (k := 13) (n := 6) (u := 6)
    rw [r1'] at e
    exact e
  have z2 : xz (xnw M1 13 6 6) = 240 := by show xz M1 + 1 = _; omega
  have u2 : xu (xnw M1 13 6 6) = xu M1 + 6 := rfl
  generalize xnw M1 13 6 6 = M2 at *
  obtain ⟨s1, s2, s3⟩ := rowM_e (v0 := 239) [(0, 0, 20), (1, 0, 20), (2, 0, 20), (3, 0, 20), (4, 0, 20), (5, 0, 20)] M2
  have k6 : ∀ c, c < 6 → [((0 : Nat), (0 : Nat), (20 : Nat)), (1, 0, 20), (2, 0, 20), (3, 0, 20), (4, 0, 20), (5, 0, 20)][c]? = some (c, 0, 20) := by decide
  have x1 := fun c hc => (rowM_new (v0 := 239) [(0, 0, 20), (1, 0, 20), (2, 0, 20), (3, 0, 20), (4, 0, 20), (5, 0, 20)] M2 c _ (k6 c hc)).1
  have x2 := fun c hc => rowM_ref (v0 := 239) [(0, 0, 20), (1, 0, 20), (2, 0, 20), (3, 0, 20), (4, 0, 20), (5, 0, 20)] M2 c _ (by omega) (by decide) (k6 c hc)
  generalize rowM 239 [(0, 0, 20), (1, 0, 20), (2, 0, 20), (3, 0, 20), (4, 0, 20), (5, 0, 20)] M2 = M3 at *
  have s1' : xz M3 = 246 := by rw [s1, z2]; rfl
  have s2' : xu M3 = xu M2 + 120 := s2
  rw [z2] at x1 x2
  have g3 : Gw 239 M1 M3 := g2.tr s3
  have c0 := g3.2 236 (by omega)
  rw [uR_e (by omega) (c0.1.trans t0)]
  obtain ⟨M4, e4, g4, y2, y0, y1, z4, u4⟩ : ∃ X, xpr M3 236 2 239 = X ∧ Gw 236 M3 X ∧ xr X 236 2 = some 239 ∧ xr X 236 0 = xr M3 236 0 ∧ xr X 236 1 = xr M3 236 1 ∧ xz X = xz M3 ∧ xu X = xu M3 :=
    ⟨_, rfl, Gw.rf.pr, xr_eq _ _ _ _, xr_ne (Or.inr (by decide)), xr_ne (Or.inr (by decide)), z_pr, u_pr⟩
  rw [e4]
  have c1 := g4.2 236 (by omega)
  have t4 := c1.1.trans (c0.1.trans t0)
  rw [rowP_e _ M4 (by omega) t4 (by decide) (by show _ + 3 ≤ _; omega) (by show _ + 230 ≤ _; omega)]
  obtain ⟨l1, l2, l3⟩ := rowM_e (v0 := 236) [(3, 0, 100), (4, 0, 100), (5, 0, 30)] M4
  have m0 := (rowM_new (v0 := 236) [(3, 0, 100), (4, 0, 100), (5, 0, 30)] M4 0 _ rfl).1
  have m1 := (rowM_new (v0 := 236) [(3, 0, 100), (4, 0, 100), (5, 0, 30)] M4 1 _ rfl).1
  have m2 := (rowM_new (v0 := 236) [(3, 0, 100), (4, 0, 100), (5, 0, 30)] M4 2 _ rfl).1
  have h0 := rowM_ref (v0 := 236) [(3, 0, 100), (4, 0, 100), (5, 0, 30)] M4 0 _ (by omega) (by decide) rfl
  have h1 := rowM_ref (v0 := 236) [(3, 0, 100), (4, 0, 100), (5, 0, 30)] M4 1 _ (by omega) (by decide) rfl
  have h2 := rowM_ref (v0 := 236) [(3, 0, 100), (4, 0, 100), (5, 0, 30)] M4 2 _ (by omega) (by decide) rfl
  have o0 := rowM_oth (v0 := 236) (j := 0) [(3, 0, 100), (4, 0, 100), (5, 0, 30)] M4 (by omega) (by decide)
  have o1 := rowM_oth (v0 := 236) (j := 1) [(3, 0, 100), (4, 0, 100), (5, 0, 30)] M4 (by omega) (by decide)
  have o2 := rowM_oth (v0 := 236) (j := 2) [(3, 0, 100), (4, 0, 100), (5, 0, 30)] M4 (by omega) (by decide)
  generalize rowM 236 [(3, 0, 100), (4, 0, 100), (5, 0, 30)] M4 = M5 at *
  have l1' : xz M5 = 249 := by rw [l1, z4, s1']; rfl
  have l2' : xu M5 = xu M4 + 230 := l2
  rw [z4, s1'] at m0 m1 m2 h0 h1 h2
  have n0 : xr M5 236 0 = some 237 := by rw [o0, y0, c0.2.2 (by omega)]; exact f0
  have n1 : xr M5 236 1 = some 238 := by rw [o1, y1, c0.2.2 (by omega)]; exact f1
  have n2 : xr M5 236 2 = some 239 := by rw [o2]; exact y2
  have gA : Gw 236 M3 M5 := g4.tr l3
  have gB : Gw 236 M1 M5 := (g3.new (by omega)).tr gA
  have t5 : xt M5 236 = (24, 0) := (gB.2 236 (by omega)).1.trans t0
  have t37 : xt M5 237 = (0, 30) := (gB.2 237 (by omega)).1.trans w0.1
  have t38 : xt M5 238 = (0, 6) := (gB.2 238 (by omega)).1.trans w1.1
  have t39 : xt M5 239 = (13, 6) := (gA.2 239 (by omega)).1.trans ((s3.2 239 (by omega)).1.trans v0)
  rw [gR_e (by omega) t5 n0]
  obtain ⟨N, p1, p2, p3⟩ := s_fill (M := M5) (a := 237) (-1) (by decide) (by omega) t37
  have pz := p2.1
  have pu := p2.2.1
  rw [p1, cV_e]
  refine ⟨N, rfl, by omega, by omega, ⟨by omega, fun a ha => ?_⟩, ?_, p3⟩
  · have e := (r3.tr gB).2 a ha
    rw [p2.2.2.1, p2.2.2.2.1, p2.2.2.2.2.2 a (by omega)]
    exact e
  · unfold ShakAt
    rw [p2.1, p2.2.2.1, p2.2.2.2.1]
    refine ⟨by omega, t5, t37, t38, t39, m0, m1, m2, n0, n1, n2, h0, h1, h2, fun c hc => ⟨?_, ?_⟩⟩
    · rw [(gA.2 239 (by omega)).2.2 (by omega)]
      exact x2 c hc
    · exact (gA.2 (240 + c) (by omega)).1.trans (x1 c hc)
