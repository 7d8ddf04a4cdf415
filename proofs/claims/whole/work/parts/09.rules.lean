/-! programs over the memory, and the rules that tie them to the machine -/
abbrev XP : Type := Option (XO × XM)
abbrev xin (j : Int32) (n : Nat) : Prop := ¬ (j < 0 ∨ n ≤ j.toNatClampNeg)
def gI (M : XM) (k a j : Nat) (f : Int32 → XP) : XP := if a < xz M ∧ (xt M a).1 = k then f (xi M a j) else none
def gR (M : XM) (k a j : Nat) (f : Nat → XP) : XP := if a < xz M ∧ (xt M a).1 = k then (match xr M a j with
  | some b => f b
  | none => none) else none
def uI (M : XM) (k a j : Nat) (v : Int32) (f : XM → XP) : XP := if a < xz M ∧ (xt M a).1 = k then f (xpi M a j v) else none
def uZ (M : XM) (k a j : Nat) (v : Int32) (f : XM → XP) : XP := if (a < xz M ∧ (xt M a).1 = k) ∧ (v = 0 ∨ v = 1) then f (xpi M a j v) else none
def uR (M : XM) (k a j b : Nat) (f : XM → XP) : XP := if a < xz M ∧ (xt M a).1 = k then f (xpr M a j b) else none
def aI (M : XM) (a : Nat) (j : Int32) (f : Int32 → XP) : XP := if (a < xz M ∧ ((xt M a).1 = 0 ∨ (xt M a).1 = 5)) ∧ xin j (xt M a).2 then f (xi M a j.toNatClampNeg) else none
def aZ (M : XM) (a : Nat) (j : Int32) (f : Int32 → XP) : XP := if (a < xz M ∧ (xt M a).1 = 1) ∧ xin j (xt M a).2 then f (xi M a j.toNatClampNeg) else none
def aJ (M : XM) (a : Nat) (j : Int32) (f : Int64 → XP) : XP := if (a < xz M ∧ (xt M a).1 = 2) ∧ xin j (xt M a).2 then f (xj M a j.toNatClampNeg) else none
def aR (M : XM) (kd a : Nat) (j : Int32) (f : Nat → XP) : XP := if (a < xz M ∧ (xt M a).1 = kd) ∧ xin j (xt M a).2 then (match xr M a j.toNatClampNeg with
  | some b => f b
  | none => none) else none
def sI (M : XM) (a : Nat) (j v : Int32) (f : XM → XP) : XP := if (a < xz M ∧ (xt M a).1 = 0) ∧ xin j (xt M a).2 then f (xpi M a j.toNatClampNeg v) else none
def sZ (M : XM) (a : Nat) (j v : Int32) (f : XM → XP) : XP := if ((a < xz M ∧ (xt M a).1 = 1) ∧ xin j (xt M a).2) ∧ (v = 0 ∨ v = 1) then f (xpi M a j.toNatClampNeg v) else none
def sJ (M : XM) (a : Nat) (j : Int32) (v : Int64) (f : XM → XP) : XP := if (a < xz M ∧ (xt M a).1 = 2) ∧ xin j (xt M a).2 then f (xpj M a j.toNatClampNeg v) else none
def sR (M : XM) (kd ci a : Nat) (j : Int32) (b : Nat) (f : XM → XP) : XP := if ((a < xz M ∧ (xt M a).1 = kd) ∧ xin j (xt M a).2) ∧ b < xz M ∧ (xt M b).1 = 20 + ci then f (xpr M a j.toNatClampNeg b) else none
def aL (M : XM) (a : Nat) (f : Int32 → XP) : XP := if a < xz M ∧ (xar (xt M a).1).isSome = true then f (xt M a).2.toInt32 else none
def nO (M : XM) (k n : Nat) (f : Nat → XM → XP) : XP := if xz M < ZM ∧ xu M + n ≤ UM then f (xz M) (xnw M k 0 n) else none
def nA (M : XM) (k : Nat) (v : Int32) (f : Nat → XM → XP) : XP := if (¬ v < 0 ∧ v.toNatClampNeg ≤ 100000) ∧ xz M < ZM ∧ xu M + v.toNatClampNeg ≤ UM then f (xz M) (xnw M k v.toNatClampNeg v.toNatClampNeg) else none
def tX (M : XM) (ei : Nat) : XP := if xz M < ZM ∧ xu M + 6 ≤ UM then some (.inr (xz M), xnw M (40 + ei) 0 6) else none
def z01 (v : Int32) (f : XP) : XP := if v = 0 ∨ v = 1 then f else none
def cI (r : XP) (f : Int32 → XM → XP) : XP := match r with
  | some (.inl (some (.int v)), M) => f v M
  | some (.inr a, M) => some (.inr a, M)
  | _ => none
def cV (r : XP) (f : XM → XP) : XP := match r with
  | some (.inl none, M) => f M
  | some (.inr a, M) => some (.inr a, M)
  | _ => none
def cR (r : XP) (f : Nat → XM → XP) : XP := match r with
  | some (.inl (some (.ref b)), M) => f b M
  | some (.inr a, M) => some (.inr a, M)
  | _ => none
def hI (r : XP) (f : Int32 → XM → XP) (g : Nat → XM → XP) : XP := match r with
  | some (.inl (some (.int v)), M) => f v M
  | some (.inr a, M) => g a M
  | _ => none
def hV (r : XP) (f : XM → XP) (g : Nat → XM → XP) : XP := match r with
  | some (.inl none, M) => f M
  | some (.inr a, M) => g a M
  | _ => none
section XR
variable {K : XK} {y : YT} {pc : Nat} {L : XL} {S : List Value} {M N : XM} {o : XO}
theorem h_if {c : Prop} [Decidable c] {A B : XP} (h : (if c then A else B) = some (o, N)) : (c → A = some (o, N)) ∧ (¬ c → B = some (o, N)) := ⟨fun hc => by rw [if_pos hc] at h; exact h, fun hc => by rw [if_neg hc] at h; exact h⟩
theorem h_ok {c : Prop} [Decidable c] {A : XP} (h : (if c then A else none) = some (o, N)) : c ∧ A = some (o, N) := by
  by_cases hc : c
  · rw [if_pos hc] at h; exact ⟨hc, h⟩
  · rw [if_neg hc] at h; cases h
theorem h_if_eq {x : Int32} {off : Int} (tgt : Nat) {A B : XP} (hd : decode (yb y) pc = .ok (.ifCond .eq off, 3)) (ht : (pc : Int) + off = (tgt : Int)) (h : (if x = 0 then A else B) = some (o, N)) (kt : x = 0 → A = some (o, N) → cA K y tgt L S M o N) (kf : ¬ x = 0 → B = some (o, N) → cA K y (pc + 3) L S M o N) : cA K y pc L (.int x :: S) M o N :=
  x_if_eq tgt hd ht (fun c => kt c ((h_if h).1 c)) (fun c => kf (by first | exact c | exact (fun q => q c)) ((h_if h).2 (by first | exact c | exact (fun q => q c))))
theorem h_if_ne {x : Int32} {off : Int} (tgt : Nat) {A B : XP} (hd : decode (yb y) pc = .ok (.ifCond .ne off, 3)) (ht : (pc : Int) + off = (tgt : Int)) (h : (if ¬ x = 0 then A else B) = some (o, N)) (kt : ¬ x = 0 → A = some (o, N) → cA K y tgt L S M o N) (kf : ¬ ¬ x = 0 → B = some (o, N) → cA K y (pc + 3) L S M o N) : cA K y pc L (.int x :: S) M o N :=
  x_if_ne tgt hd ht (fun c => kt c ((h_if h).1 c)) (fun c => kf (by first | exact c | exact (fun q => q c)) ((h_if h).2 (by first | exact c | exact (fun q => q c))))
theorem h_if_lt {x : Int32} {off : Int} (tgt : Nat) {A B : XP} (hd : decode (yb y) pc = .ok (.ifCond .lt off, 3)) (ht : (pc : Int) + off = (tgt : Int)) (h : (if x < 0 then A else B) = some (o, N)) (kt : x < 0 → A = some (o, N) → cA K y tgt L S M o N) (kf : ¬ x < 0 → B = some (o, N) → cA K y (pc + 3) L S M o N) : cA K y pc L (.int x :: S) M o N :=
  x_if_lt tgt hd ht (fun c => kt c ((h_if h).1 c)) (fun c => kf (by first | exact c | exact (fun q => q c)) ((h_if h).2 (by first | exact c | exact (fun q => q c))))
theorem h_if_ge {x : Int32} {off : Int} (tgt : Nat) {A B : XP} (hd : decode (yb y) pc = .ok (.ifCond .ge off, 3)) (ht : (pc : Int) + off = (tgt : Int)) (h : (if 0 ≤ x then A else B) = some (o, N)) (kt : 0 ≤ x → A = some (o, N) → cA K y tgt L S M o N) (kf : ¬ 0 ≤ x → B = some (o, N) → cA K y (pc + 3) L S M o N) : cA K y pc L (.int x :: S) M o N :=
  x_if_ge tgt hd ht (fun c => kt c ((h_if h).1 c)) (fun c => kf (by first | exact c | exact (fun q => q c)) ((h_if h).2 (by first | exact c | exact (fun q => q c))))
theorem h_if_gt {x : Int32} {off : Int} (tgt : Nat) {A B : XP} (hd : decode (yb y) pc = .ok (.ifCond .gt off, 3)) (ht : (pc : Int) + off = (tgt : Int)) (h : (if 0 < x then A else B) = some (o, N)) (kt : 0 < x → A = some (o, N) → cA K y tgt L S M o N) (kf : ¬ 0 < x → B = some (o, N) → cA K y (pc + 3) L S M o N) : cA K y pc L (.int x :: S) M o N :=
  x_if_gt tgt hd ht (fun c => kt c ((h_if h).1 c)) (fun c => kf (by first | exact c | exact (fun q => q c)) ((h_if h).2 (by first | exact c | exact (fun q => q c))))
theorem h_if_le {x : Int32} {off : Int} (tgt : Nat) {A B : XP} (hd : decode (yb y) pc = .ok (.ifCond .le off, 3)) (ht : (pc : Int) + off = (tgt : Int)) (h : (if x ≤ 0 then A else B) = some (o, N)) (kt : x ≤ 0 → A = some (o, N) → cA K y tgt L S M o N) (kf : ¬ x ≤ 0 → B = some (o, N) → cA K y (pc + 3) L S M o N) : cA K y pc L (.int x :: S) M o N :=
  x_if_le tgt hd ht (fun c => kt c ((h_if h).1 c)) (fun c => kf (by first | exact c | exact (fun q => q c)) ((h_if h).2 (by first | exact c | exact (fun q => q c))))
theorem h_icmp_eq {x z : Int32} {off : Int} (tgt : Nat) {A B : XP} (hd : decode (yb y) pc = .ok (.if_icmp .eq off, 3)) (ht : (pc : Int) + off = (tgt : Int)) (h : (if x = z then A else B) = some (o, N)) (kt : x = z → A = some (o, N) → cA K y tgt L S M o N) (kf : ¬ x = z → B = some (o, N) → cA K y (pc + 3) L S M o N) : cA K y pc L (.int z :: .int x :: S) M o N :=
  x_icmp_eq tgt hd ht (fun c => kt c ((h_if h).1 c)) (fun c => kf (by first | exact c | exact (fun q => q c)) ((h_if h).2 (by first | exact c | exact (fun q => q c))))
theorem h_icmp_ne {x z : Int32} {off : Int} (tgt : Nat) {A B : XP} (hd : decode (yb y) pc = .ok (.if_icmp .ne off, 3)) (ht : (pc : Int) + off = (tgt : Int)) (h : (if ¬ x = z then A else B) = some (o, N)) (kt : ¬ x = z → A = some (o, N) → cA K y tgt L S M o N) (kf : ¬ ¬ x = z → B = some (o, N) → cA K y (pc + 3) L S M o N) : cA K y pc L (.int z :: .int x :: S) M o N :=
  x_icmp_ne tgt hd ht (fun c => kt c ((h_if h).1 c)) (fun c => kf (by first | exact c | exact (fun q => q c)) ((h_if h).2 (by first | exact c | exact (fun q => q c))))
theorem h_icmp_lt {x z : Int32} {off : Int} (tgt : Nat) {A B : XP} (hd : decode (yb y) pc = .ok (.if_icmp .lt off, 3)) (ht : (pc : Int) + off = (tgt : Int)) (h : (if x < z then A else B) = some (o, N)) (kt : x < z → A = some (o, N) → cA K y tgt L S M o N) (kf : ¬ x < z → B = some (o, N) → cA K y (pc + 3) L S M o N) : cA K y pc L (.int z :: .int x :: S) M o N :=
  x_icmp_lt tgt hd ht (fun c => kt c ((h_if h).1 c)) (fun c => kf (by first | exact c | exact (fun q => q c)) ((h_if h).2 (by first | exact c | exact (fun q => q c))))
theorem h_icmp_ge {x z : Int32} {off : Int} (tgt : Nat) {A B : XP} (hd : decode (yb y) pc = .ok (.if_icmp .ge off, 3)) (ht : (pc : Int) + off = (tgt : Int)) (h : (if z ≤ x then A else B) = some (o, N)) (kt : z ≤ x → A = some (o, N) → cA K y tgt L S M o N) (kf : ¬ z ≤ x → B = some (o, N) → cA K y (pc + 3) L S M o N) : cA K y pc L (.int z :: .int x :: S) M o N :=
  x_icmp_ge tgt hd ht (fun c => kt c ((h_if h).1 c)) (fun c => kf (by first | exact c | exact (fun q => q c)) ((h_if h).2 (by first | exact c | exact (fun q => q c))))
theorem h_icmp_gt {x z : Int32} {off : Int} (tgt : Nat) {A B : XP} (hd : decode (yb y) pc = .ok (.if_icmp .gt off, 3)) (ht : (pc : Int) + off = (tgt : Int)) (h : (if z < x then A else B) = some (o, N)) (kt : z < x → A = some (o, N) → cA K y tgt L S M o N) (kf : ¬ z < x → B = some (o, N) → cA K y (pc + 3) L S M o N) : cA K y pc L (.int z :: .int x :: S) M o N :=
  x_icmp_gt tgt hd ht (fun c => kt c ((h_if h).1 c)) (fun c => kf (by first | exact c | exact (fun q => q c)) ((h_if h).2 (by first | exact c | exact (fun q => q c))))
theorem h_icmp_le {x z : Int32} {off : Int} (tgt : Nat) {A B : XP} (hd : decode (yb y) pc = .ok (.if_icmp .le off, 3)) (ht : (pc : Int) + off = (tgt : Int)) (h : (if x ≤ z then A else B) = some (o, N)) (kt : x ≤ z → A = some (o, N) → cA K y tgt L S M o N) (kf : ¬ x ≤ z → B = some (o, N) → cA K y (pc + 3) L S M o N) : cA K y pc L (.int z :: .int x :: S) M o N :=
  x_icmp_le tgt hd ht (fun c => kt c ((h_if h).1 c)) (fun c => kf (by first | exact c | exact (fun q => q c)) ((h_if h).2 (by first | exact c | exact (fun q => q c))))
theorem h_getI (G : xG K) {ci j index a : Nat} {q : String × List XF} {f : XF} {F : Int32 → XP} (hd : decode (yb y) pc = .ok (.getfield index, 3)) (hq : xcl[ci]? = some q) (hf : q.2[j]? = some f) (hr : f.2.2.2 = false) (hk : Cond.fieldLink (ym y).cls index q.1 f.1 f.2.1 ∈ lw_tbl)
    (h : gI M (20 + ci) a j F = some (o, N)) (k : ∀ t, F t = some (o, N) → cA K y (pc + 3) L (.int t :: S) M o N) : cA K y pc L (.ref a :: S) M o N := by
  obtain ⟨⟨h1, h2⟩, h⟩ := h_ok h
  exact x_getI G hd hq hf hr hk h1 h2 (k _ h)
theorem h_getR (G : xG K) {ci j index a : Nat} {q : String × List XF} {f : XF} {F : Nat → XP} (hd : decode (yb y) pc = .ok (.getfield index, 3)) (hq : xcl[ci]? = some q) (hf : q.2[j]? = some f) (hr : f.2.2.2 = true) (hk : Cond.fieldLink (ym y).cls index q.1 f.1 f.2.1 ∈ lw_tbl)
    (h : gR M (20 + ci) a j F = some (o, N)) (k : ∀ t, F t = some (o, N) → cA K y (pc + 3) L (.ref t :: S) M o N) : cA K y pc L (.ref a :: S) M o N := by
  obtain ⟨⟨h1, h2⟩, h⟩ := h_ok h
  cases hb : xr M a j with
  | none => rw [hb] at h; cases h
  | some b =>
    rw [hb] at h
    exact x_getR G hd hq hf hr hk h1 h2 hb (k _ h)
theorem h_putI (G : xG K) {ci j index a : Nat} {q : String × List XF} {f : XF} {x : Int32} {F : XM → XP} (hd : decode (yb y) pc = .ok (.putfield index, 3)) (hq : xcl[ci]? = some q) (hf : q.2[j]? = some f) (hr : f.2 = ("I", false, false)) (hk : Cond.fieldLink (ym y).cls index q.1 f.1 f.2.1 ∈ lw_tbl)
    (h : uI M (20 + ci) a j x F = some (o, N)) (k : ∀ M1, F M1 = some (o, N) → cA K y (pc + 3) L S M1 o N) : cA K y pc L (.int x :: .ref a :: S) M o N := by
  obtain ⟨⟨h1, h2⟩, h⟩ := h_ok h
  exact x_putI G hd hq hf hr hk h1 h2 (k _ h)
theorem h_putZ (G : xG K) {ci j index a : Nat} {q : String × List XF} {f : XF} {x : Int32} {F : XM → XP} (hd : decode (yb y) pc = .ok (.putfield index, 3)) (hq : xcl[ci]? = some q) (hf : q.2[j]? = some f) (hr : f.2 = ("Z", false, false)) (hk : Cond.fieldLink (ym y).cls index q.1 f.1 f.2.1 ∈ lw_tbl)
    (h : uZ M (20 + ci) a j x F = some (o, N)) (k : ∀ M1, F M1 = some (o, N) → cA K y (pc + 3) L S M1 o N) : cA K y pc L (.int x :: .ref a :: S) M o N := by
  obtain ⟨⟨⟨h1, h2⟩, h3⟩, h⟩ := h_ok h
  exact x_putZ G hd hq hf hr hk h1 h2 h3 (k _ h)
theorem h_putR (G : xG K) {ci j index a b : Nat} {q : String × List XF} {f : XF} {F : XM → XP} (hd : decode (yb y) pc = .ok (.putfield index, 3)) (hq : xcl[ci]? = some q) (hf : q.2[j]? = some f) (hr : f.2.2.2 = true) (hk : Cond.fieldLink (ym y).cls index q.1 f.1 f.2.1 ∈ lw_tbl)
    (hfin : f.2.2.1 = false ∨ (ym y).name = "<init>" ∧ (ym y).cls = q.1) (hn : ∀ r, narrow (xfty f) (.ref r) = .ref r) (hfit : ∀ r, fits (xfty f) (.ref r) = true)
    (h : uR M (20 + ci) a j b F = some (o, N)) (k : ∀ M1, F M1 = some (o, N) → cA K y (pc + 3) L S M1 o N) : cA K y pc L (.ref b :: .ref a :: S) M o N := by
  obtain ⟨⟨h1, h2⟩, h⟩ := h_ok h
  exact x_putR G hd hq hf hr hk hfin h1 h2 hn hfit (k _ h)
theorem h_iaload {a : Nat} {j : Int32} {F : Int32 → XP} (hd : decode (yb y) pc = .ok (.iaload, 1)) (h : aI M a j F = some (o, N)) (k : ∀ t, F t = some (o, N) → cA K y (pc + 1) L (.int t :: S) M o N) : cA K y pc L (.int j :: .ref a :: S) M o N := by
  obtain ⟨⟨⟨h1, h2⟩, h3⟩, h⟩ := h_ok h
  exact x_iaload hd h1 h2 h3 (k _ h)
theorem h_baload {a : Nat} {j : Int32} {F : Int32 → XP} (hd : decode (yb y) pc = .ok (.baload, 1)) (h : aZ M a j F = some (o, N)) (k : ∀ t, F t = some (o, N) → cA K y (pc + 1) L (.int t :: S) M o N) : cA K y pc L (.int j :: .ref a :: S) M o N := by
  obtain ⟨⟨⟨h1, h2⟩, h3⟩, h⟩ := h_ok h
  exact x_baload hd h1 h2 h3 (k _ h)
theorem h_laload {a : Nat} {j : Int32} {F : Int64 → XP} (hd : decode (yb y) pc = .ok (.laload, 1)) (h : aJ M a j F = some (o, N)) (k : ∀ t, F t = some (o, N) → cA K y (pc + 1) L (.long t :: S) M o N) : cA K y pc L (.int j :: .ref a :: S) M o N := by
  obtain ⟨⟨⟨h1, h2⟩, h3⟩, h⟩ := h_ok h
  exact x_laload hd h1 h2 h3 (k _ h)
theorem h_aaload {kd a : Nat} {j : Int32} {ty : FieldType} {F : Nat → XP} (hd : decode (yb y) pc = .ok (.aaload, 1)) (hk : 10 ≤ kd) (hy : xar kd = some ty) (href : ty.isReference = true) (h : aR M kd a j F = some (o, N)) (k : ∀ t, F t = some (o, N) → cA K y (pc + 1) L (.ref t :: S) M o N) : cA K y pc L (.int j :: .ref a :: S) M o N := by
  obtain ⟨⟨⟨h1, h2⟩, h3⟩, h⟩ := h_ok h
  cases hb : xr M a j.toNatClampNeg with
  | none => rw [hb] at h; cases h
  | some b =>
    rw [hb] at h
    exact x_aaload hd h1 (by rw [h2]; exact hk) (by rw [h2]; exact hy) href h3 hb (k _ h)
theorem h_iastore (G : xG K) {a : Nat} {j x : Int32} {F : XM → XP} (hd : decode (yb y) pc = .ok (.iastore, 1)) (h : sI M a j x F = some (o, N)) (k : ∀ M1, F M1 = some (o, N) → cA K y (pc + 1) L S M1 o N) : cA K y pc L (.int x :: .int j :: .ref a :: S) M o N := by
  obtain ⟨⟨⟨h1, h2⟩, h3⟩, h⟩ := h_ok h
  exact x_iastore G hd h1 h2 h3 (k _ h)
theorem h_bastore (G : xG K) {a : Nat} {j x : Int32} {F : XM → XP} (hd : decode (yb y) pc = .ok (.bastore, 1)) (h : sZ M a j x F = some (o, N)) (k : ∀ M1, F M1 = some (o, N) → cA K y (pc + 1) L S M1 o N) : cA K y pc L (.int x :: .int j :: .ref a :: S) M o N := by
  obtain ⟨⟨⟨⟨h1, h2⟩, h3⟩, h4⟩, h⟩ := h_ok h
  exact x_bastore G hd h1 h2 h3 h4 (k _ h)
theorem h_lastore (G : xG K) {a : Nat} {j : Int32} {x : Int64} {F : XM → XP} (hd : decode (yb y) pc = .ok (.lastore, 1)) (h : sJ M a j x F = some (o, N)) (k : ∀ M1, F M1 = some (o, N) → cA K y (pc + 1) L S M1 o N) : cA K y pc L (.long x :: .int j :: .ref a :: S) M o N := by
  obtain ⟨⟨⟨h1, h2⟩, h3⟩, h⟩ := h_ok h
  exact x_lastore G hd h1 h2 h3 (k _ h)
theorem h_aastore (G : xG K) {kd ci a b : Nat} {j : Int32} {q : String × List XF} {F : XM → XP} (hd : decode (yb y) pc = .ok (.aastore, 1)) (hk1 : 10 ≤ kd) (hk2 : kd < 20) (hq : xcl[ci]? = some q) (hy : xar kd = some (.object q.1)) (h : sR M kd ci a j b F = some (o, N)) (k : ∀ M1, F M1 = some (o, N) → cA K y (pc + 1) L S M1 o N) : cA K y pc L (.ref b :: .int j :: .ref a :: S) M o N := by
  obtain ⟨⟨⟨⟨h1, h2⟩, h3⟩, h4, h5⟩, h⟩ := h_ok h
  exact x_aastore G hd h1 (by rw [h2]; exact hk1) (by rw [h2]; exact hk2) hq (by rw [h2]; exact hy) h3 h4 h5 (k _ h)
theorem h_arraylength {a : Nat} {F : Int32 → XP} (hd : decode (yb y) pc = .ok (.arraylength, 1)) (h : aL M a F = some (o, N)) (k : ∀ t, F t = some (o, N) → cA K y (pc + 1) L (.int t :: S) M o N) : cA K y pc L (.ref a :: S) M o N := by
  obtain ⟨⟨h1, h2⟩, h⟩ := h_ok h
  obtain ⟨ty, hty⟩ := Option.isSome_iff_exists.mp h2
  exact x_arraylength hd h1 hty rfl (k _ h)
theorem h_new (G : xG K) {ci index n : Nat} {q : String × List XF} {F : Nat → XM → XP} (hd : decode (yb y) pc = .ok (.new index, 3)) (hq : xcl[ci]? = some q) (hn : q.2.length = n) (hk : Cond.classLink (ym y).cls index q.1 ∈ lw_tbl) (hini : Cond.initialized q.1 ∈ lw_tbl)
    (h : nO M (20 + ci) n F = some (o, N)) (k : ∀ a M1, F a M1 = some (o, N) → cA K y (pc + 3) L (.ref a :: S) M1 o N) : cA K y pc L S M o N := by
  subst hn
  obtain ⟨⟨h1, h2⟩, h⟩ := h_ok h
  exact x_new G hd hq hk hini h1 h2 (k _ _ h)
theorem h_newarray (G : xG K) {at0 : ArrayType} {kd : Nat} {v : Int32} {ty : FieldType} {F : Nat → XM → XP} (hd : decode (yb y) pc = .ok (.newarray at0, 2)) (hty : newarray.typeOf at0 = ty) (hw : Cond.arrayClass ty ∈ lw_tbl) (har : xar kd = some ty) (hkd : kd < 3) (hb : componentBytes ty ≤ 8)
    (h : nA M kd v F = some (o, N)) (k : ∀ a M1, F a M1 = some (o, N) → cA K y (pc + 2) L (.ref a :: S) M1 o N) : cA K y pc L (.int v :: S) M o N := by
  obtain ⟨⟨⟨h1, h2⟩, h3, h4⟩, h⟩ := h_ok h
  refine x_newarray G hd hty hw har hkd h1 rfl ?_ h3 h4 (k _ _ h)
  exact Nat.le_trans (Nat.mul_le_mul h2 hb) (by decide)
theorem h_anewarray (G : xG K) {index kd : Nat} {v : Int32} {nm : String} {F : Nat → XM → XP} (hd : decode (yb y) pc = .ok (.anewarray index, 3)) (hk : Cond.classLink (ym y).cls index nm ∈ lw_tbl) (hov : Cond.arrayOver (.object nm) ∈ lw_tbl) (har : xar kd = some (.object nm)) (hk1 : 10 ≤ kd) (hk2 : kd < 20)
    (h : nA M kd v F = some (o, N)) (k : ∀ a M1, F a M1 = some (o, N) → cA K y (pc + 3) L (.ref a :: S) M1 o N) : cA K y pc L (.int v :: S) M o N := by
  obtain ⟨⟨⟨h1, h2⟩, h3, h4⟩, h⟩ := h_ok h
  exact x_anewarray G hd hk hov har hk1 hk2 h1 rfl (by omega) h3 h4 (k _ _ h)
theorem h_throw (G : xG K) {ei ix isx ic : Nat} {X tx : String} (hX : xex[ei]? = some X) (d0 : decode (yb y) pc = .ok (.new ix, 3)) (d1 : decode (yb y) (pc + 3) = .ok (.dup, 1)) (d2 : decode (yb y) (pc + 4) = .ok (.ldc isx, 2)) (d3 : decode (yb y) (pc + 6) = .ok (.invokespecial ic, 3)) (d4 : decode (yb y) (pc + 9) = .ok (.athrow, 1))
    (hk : Cond.classLink (ym y).cls ix X ∈ lw_tbl) (hm : Cond.methodLink (ym y).cls ic (Bundle.initS X) ∈ lw_tbl) (hst : Cond.stringRef (ym y).cls isx tx ∈ lw_tbl) (hh : yh y = []) (hfr : 6 ≤ yf y) (hlo : 82 ≤ yl y) (h : tX M ei = some (o, N)) : cA K y pc L [] M o N := by
  obtain ⟨⟨h1, h2⟩, h⟩ := h_ok h
  cases h
  exact x_throw G hX d0 d1 d2 d3 d4 hk hm hst hh hfr hlo h1 h2
theorem h_idiv {x z : Int32} {F : XP} (hd : decode (yb y) pc = .ok (.idiv, 1)) (h : (if z = 0 then none else F) = some (o, N)) (k : F = some (o, N) → cA K y (pc + 1) L (.int (x / z) :: S) M o N) : cA K y pc L (.int z :: .int x :: S) M o N := by
  by_cases hz : z = 0
  · rw [if_pos hz] at h; cases h
  · rw [if_neg hz] at h; exact x_idiv hd hz (k h)
theorem h_ireturn {v : Int32} (hd : decode (yb y) pc = .ok (.ireturn, 1)) (hr : yr y = some .int) (h : (some (.inl (some (.int v)), M) : XP) = some (o, N)) : cA K y pc L [.int v] M o N := by
  cases h
  exact x_ireturn hd hr
theorem h_zreturn {v : Int32} (hd : decode (yb y) pc = .ok (.ireturn, 1)) (hr : yr y = some .boolean) (h : z01 v (some (.inl (some (.int v)), M)) = some (o, N)) : cA K y pc L [.int v] M o N := by
  obtain ⟨h1, h⟩ := h_ok h
  cases h
  exact x_zreturn hd hr (xnz h1).1
theorem h_areturn {a : Nat} {n : String} (hd : decode (yb y) pc = .ok (.areturn, 1)) (hr : yr y = some (.object n)) (h : (some (.inl (some (.ref a)), M) : XP) = some (o, N)) : cA K y pc L [.ref a] M o N := by
  cases h
  exact x_areturn hd hr
theorem h_return (hd : decode (yb y) pc = .ok (.return_, 1)) (hr : yr y = none) (h : (some (.inl none, M) : XP) = some (o, N)) : cA K y pc L [] M o N := by
  cases h
  exact x_return hd hr
/-- what a caller must know of the method that it calls -/
def xCal (y y2 : YT) (w : Nat) : Prop := yf y2 + 1 ≤ yf y ∧ w + (yn y2 + 11) + yl y2 ≤ yl y
def xOut (y : YT) (pc : Nat) : Prop := (yh y).all (fun q => !(decide (q.1 ≤ pc) && decide (pc < q.2.1))) = true
def xMet (y2 : YT) : Prop := yw y2 ∈ lw_tbl ∧ Cond.initialized (ym y2).cls ∈ lw_tbl
theorem h_callI (G : xG K) {y2 : YT} {A S' : List Value} {g : XP} {F : Int32 → XM → XP} (hs : xSite K y pc y2 A S' S M) (hm : xMet y2) (hc : xCal y y2 (S.map fun v => v.category).sum) (ho : xOut y pc) (hg : ∀ o1 M1, g = some (o1, M1) → Ct K y2 A M o1 M1)
    (h : cI g F = some (o, N)) (k : ∀ v M1, F v M1 = some (o, N) → cA K y (pc + 3) L (.int v :: S) M1 o N) : cA K y pc L S' M o N := by
  cases g with
  | none => cases h
  | some r =>
    obtain ⟨o1, M1⟩ := r
    cases o1 with
    | inr a =>
      cases h
      exact x_call G hs (hg _ _ rfl) hc.1 hc.2 hm.1 hm.2 (fun v hv => by cases hv) (fun b hb => by cases hb; exact cT_out ho)
    | inl v =>
      cases v with
      | none => cases h
      | some w =>
        cases w with
        | int x => exact x_call G hs (hg _ _ rfl) hc.1 hc.2 hm.1 hm.2 (fun v hv => by cases hv; exact k x M1 h) (fun b hb => by cases hb)
        | _ => cases h
theorem h_callV (G : xG K) {y2 : YT} {A S' : List Value} {g : XP} {F : XM → XP} (hs : xSite K y pc y2 A S' S M) (hm : xMet y2) (hc : xCal y y2 (S.map fun v => v.category).sum) (ho : xOut y pc) (hg : ∀ o1 M1, g = some (o1, M1) → Ct K y2 A M o1 M1)
    (h : cV g F = some (o, N)) (k : ∀ M1, F M1 = some (o, N) → cA K y (pc + 3) L S M1 o N) : cA K y pc L S' M o N := by
  cases g with
  | none => cases h
  | some r =>
    obtain ⟨o1, M1⟩ := r
    cases o1 with
    | inr a =>
      cases h
      exact x_call G hs (hg _ _ rfl) hc.1 hc.2 hm.1 hm.2 (fun v hv => by cases hv) (fun b hb => by cases hb; exact cT_out ho)
    | inl v =>
      cases v with
      | some w => cases h
      | none => exact x_call G hs (hg _ _ rfl) hc.1 hc.2 hm.1 hm.2 (fun v hv => by cases hv; exact k M1 h) (fun b hb => by cases hb)
theorem h_callR (G : xG K) {y2 : YT} {A S' : List Value} {g : XP} {F : Nat → XM → XP} (hs : xSite K y pc y2 A S' S M) (hm : xMet y2) (hc : xCal y y2 (S.map fun v => v.category).sum) (ho : xOut y pc) (hg : ∀ o1 M1, g = some (o1, M1) → Ct K y2 A M o1 M1)
    (h : cR g F = some (o, N)) (k : ∀ v M1, F v M1 = some (o, N) → cA K y (pc + 3) L (.ref v :: S) M1 o N) : cA K y pc L S' M o N := by
  cases g with
  | none => cases h
  | some r =>
    obtain ⟨o1, M1⟩ := r
    cases o1 with
    | inr a =>
      cases h
      exact x_call G hs (hg _ _ rfl) hc.1 hc.2 hm.1 hm.2 (fun v hv => by cases hv) (fun b hb => by cases hb; exact cT_out ho)
    | inl v =>
      cases v with
      | none => cases h
      | some w =>
        cases w with
        | ref x => exact x_call G hs (hg _ _ rfl) hc.1 hc.2 hm.1 hm.2 (fun v hv => by cases hv; exact k x M1 h) (fun b hb => by cases hb)
        | _ => cases h
theorem h_hI (G : xG K) {y2 : YT} {A S' : List Value} {g : XP} {F : Int32 → XM → XP} {E : Nat → XM → XP} (hs : xSite K y pc y2 A S' S M) (hm : xMet y2) (hc : xCal y y2 (S.map fun v => v.category).sum) (hg : ∀ o1 M1, g = some (o1, M1) → Ct K y2 A M o1 M1)
    (h : hI g F E = some (o, N)) (k : ∀ v M1, F v M1 = some (o, N) → cA K y (pc + 3) L (.int v :: S) M1 o N) (ke : ∀ a M1, E a M1 = some (o, N) → cT K y pc L a M1 o N) : cA K y pc L S' M o N := by
  cases g with
  | none => cases h
  | some r =>
    obtain ⟨o1, M1⟩ := r
    cases o1 with
    | inr a => exact x_call G hs (hg _ _ rfl) hc.1 hc.2 hm.1 hm.2 (fun v hv => by cases hv) (fun b hb => by cases hb; exact ke a M1 h)
    | inl v =>
      cases v with
      | none => cases h
      | some w =>
        cases w with
        | int x => exact x_call G hs (hg _ _ rfl) hc.1 hc.2 hm.1 hm.2 (fun v hv => by cases hv; exact k x M1 h) (fun b hb => by cases hb)
        | _ => cases h
theorem h_hV (G : xG K) {y2 : YT} {A S' : List Value} {g : XP} {F : XM → XP} {E : Nat → XM → XP} (hs : xSite K y pc y2 A S' S M) (hm : xMet y2) (hc : xCal y y2 (S.map fun v => v.category).sum) (hg : ∀ o1 M1, g = some (o1, M1) → Ct K y2 A M o1 M1)
    (h : hV g F E = some (o, N)) (k : ∀ M1, F M1 = some (o, N) → cA K y (pc + 3) L S M1 o N) (ke : ∀ a M1, E a M1 = some (o, N) → cT K y pc L a M1 o N) : cA K y pc L S' M o N := by
  cases g with
  | none => cases h
  | some r =>
    obtain ⟨o1, M1⟩ := r
    cases o1 with
    | inr a => exact x_call G hs (hg _ _ rfl) hc.1 hc.2 hm.1 hm.2 (fun v hv => by cases hv) (fun b hb => by cases hb; exact ke a M1 h)
    | inl v =>
      cases v with
      | some w => cases h
      | none => exact x_call G hs (hg _ _ rfl) hc.1 hc.2 hm.1 hm.2 (fun v hv => by cases hv; exact k M1 h) (fun b hb => by cases hb)
theorem h_catch (G : xG K) {a ei : Nat} {X : String} {A B : XP} (hX : xex[ei]? = some X) (pre : List ((Nat × Nat × Nat × Nat) × String)) (x : Nat × Nat × Nat × Nat) (rest : List (Nat × Nat × Nat × Nat)) (hh : yh y = pre.map (fun q => q.1) ++ x :: rest)
    (hp : ∀ q ∈ pre, q.1.1 ≤ pc ∧ pc < q.1.2.1 ∧ q.1.2.2.2 ≠ 0 ∧ Cond.classLink (ym y).cls q.1.2.2.2 q.2 ∈ lw_tbl ∧ q.2 ∈ xex ∧ X ≠ q.2) (hx : x.1 ≤ pc ∧ pc < x.2.1 ∧ x.2.2.2 ≠ 0 ∧ Cond.classLink (ym y).cls x.2.2.2 X ∈ lw_tbl)
    (h : (if a < xz M ∧ (xt M a).1 = 40 + ei then A else B) = some (o, N)) (k : A = some (o, N) → cA K y x.2.2.1 L [.ref a] M o N) (kn : B = some (o, N) → cT K y pc L a M o N) : cT K y pc L a M o N := by
  by_cases hc : a < xz M ∧ (xt M a).1 = 40 + ei
  · rw [if_pos hc] at h
    exact cT_catch G hX hc.1 hc.2 pre x rest hh hp hx (k h)
  · rw [if_neg hc] at h
    exact kn h
end XR
/-- how often a loop may go round -/
def FU : Nat := 5000
def rv (M : XM) (k a : Nat) (f : XP) : XP := if a < xz M ∧ (xt M a).1 = k then f else none
theorem h_case {c P : Prop} [Decidable c] {A B : XP} {o : XO} {N : XM} (h : (if c then A else B) = some (o, N)) (k1 : c → A = some (o, N) → P) (k2 : ¬ c → B = some (o, N) → P) : P := by
  by_cases hc : c
  · rw [if_pos hc] at h; exact k1 hc h
  · rw [if_neg hc] at h; exact k2 hc h
