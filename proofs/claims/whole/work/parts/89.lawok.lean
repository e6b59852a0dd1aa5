def sh0 : Sh := fun _ => (99, 0)
def μ0 : Mu := (fun _ _ => 0, fun _ _ => 0, fun _ _ => 0)
theorem law_ok (L : Nat) (xs : Nat → Int32) (hL : L ≤ 2560) : m_L_law L xs 0 sh0 μ0 = some 1 := sorry
