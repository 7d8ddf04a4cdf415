/-! arrays of arrays -/
def xfl (M : XM) (a m : Nat) : Nat → XM
  | 0 => M
  | i + 1 => xpr (xnw (xfl M a m i) 0 m m) a i (xz (xfl M a m i))
def mA (M : XM) (x z : Int32) (f : Nat → XM → XP) : XP :=
  if (¬ x < 0 ∧ ¬ z < 0 ∧ x.toNatClampNeg ≤ 1000 ∧ z.toNatClampNeg ≤ 1000) ∧ xz M + (1 + x.toNatClampNeg) ≤ ZM ∧ xu M + (x.toNatClampNeg + x.toNatClampNeg * z.toNatClampNeg) ≤ UM then
    f (xz M) (xfl (xnw M 13 x.toNatClampNeg x.toNatClampNeg) (xz M) z.toNatClampNeg x.toNatClampNeg) else none
section XR
variable {K : XK} {y : YT} {pc : Nat} {L : XL} {S : List Value} {M N : XM} {o : XO}
theorem h_multi (G : xG K) {index : Nat} {x z : Int32} {F : Nat → XM → XP} (hd : decode (yb y) pc = .ok (.multianewarray index 2, 4)) (hk : Cond.classLink (ym y).cls index "[[I" ∈ lw_tbl)
    (h : mA M x z F = some (o, N)) (k : ∀ a M1, F a M1 = some (o, N) → cA K y (pc + 4) L (.ref a :: S) M1 o N) : cA K y pc L (.int z :: .int x :: S) M o N := by
  sorry
end XR
