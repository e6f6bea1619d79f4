abbrev W_173 : List (Nat × Nat) := [(69, 3), (69, 4)]
theorem th_173 {E : zE} {d : Nat} {m0 : zM} {a0 a1 : Int} (hd : 1 ≤ d) (hI0 : zInv m0) (ha0 : -9223372036854775808 ≤ a0 ∧ a0 ≤ 9223372036854775807) (ha1 : 1 ≤ a1 ∧ a1 ≤ 9223372036854775807) : zC E d 173 [(2, 69), (1, a0), (1, a1)] m0 (fun v m' => v = (9, 0) ∧ zInv m' ∧ zFr W_173 m0 m') := sorry
abbrev W_189 : List (Nat × Nat) := [(81, 1000)]
theorem th_189 {E : zE} {d : Nat} {m0 : zM} {a0 : Int} (hd : 4 ≤ d) (hI0 : zInv m0) (ha0 : 0 ≤ a0 ∧ a0 ≤ 9) : zC E d 189 [(2, 69), (0, a0)] m0 (fun v m' => ∃ r : Int, v = (0, r) ∧ 0 ≤ r ∧ r ≤ 9 ∧ zInv m' ∧ zFr W_189 m0 m') := sorry
abbrev W_161 : List (Nat × Nat) := [(69, 6), (69, 7), (69, 9), (69, 11), (69, 13), (73, 1000), (74, 1000)]
theorem th_161 {E : zE} {d : Nat} {m0 : zM} (hd : 6 ≤ d) (hI0 : zInv m0) : zC E d 161 [(2, 69)] m0 (fun v m' => ∃ r : Int, v = (0, r) ∧ 0 ≤ r ∧ r ≤ 1 ∧ zInv m' ∧ zFr W_161 m0 m') := sorry
