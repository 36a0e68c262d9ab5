/-! runs of the memory machine; where ways meet, what is no more used is forgotten -/
def yk (kl : Nat → Option (List Nat)) (q : ySt) : ySt := match kl q.1 with
  | none => q
  | some ks => (q.1, ks.foldl (fun L k => L.set k none) q.2.1, q.2.2)
def yrun (E : yEnv) (cd : Nat → Option Instr) (kl : Nat → Option (List Nat)) : Nat → ySt → Option (Option Value × yM)
  | 0, _ => none
  | n + 1, q => match cd q.1 with
    | none => none
    | some i => ystp E i q.1 q.2.1 q.2.2.1 q.2.2.2 (fun q' => yrun E cd kl n (yk kl q')) (fun r A => some (r, A))
/-! a method's first locals out of its arguments -/
def xfl (vs : List Value) : List (Option Value) := vs.flatMap (fun v => if v.category = 2 then [some v, none] else [some v])
def xent (vs : List Value) (n : Nat) : List (Option Value) := xfl vs ++ List.replicate (n - (xfl vs).length) none
