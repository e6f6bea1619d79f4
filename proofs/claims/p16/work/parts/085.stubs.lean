abbrev W_161 : List (Nat × Nat) := [(69, 6), (69, 7), (69, 9), (69, 11), (69, 13), (73, 1000), (74, 1000)]
theorem th_161 {E : zE} {d : Nat} {m0 : zM} (hd : 6 ≤ d) (hI0 : zInv m0) : zC E d 161 [(2, 69)] m0 (fun v m' => ∃ r : Int, v = (0, r) ∧ 0 ≤ r ∧ r ≤ 1 ∧ zInv m' ∧ zFr W_161 m0 m') := sorry
