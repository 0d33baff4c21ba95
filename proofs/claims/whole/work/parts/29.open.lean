/-! What is left, over the functions alone: for each script the law's functions come to an end -/
def Pure_ok : Prop := ∀ (L : Nat) (xs : Nat → Int32), L ≤ 2560 → ∃ (n r1 r2 r3 : Nat) (μ res : Mem), Pro n m0 = some (r1, r2, r3, μ) ∧ Lp n r1 r2 r3 L xs (L / 5) 0 μ = some res
