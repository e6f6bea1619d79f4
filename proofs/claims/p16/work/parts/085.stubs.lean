abbrev W_161 : List (Nat × Nat) := [(69, 6), (69, 7), (69, 9), (69, 11), (69, 13), (73, 1000), (74, 1000)]
theorem th_161 {E : zE} {d : Nat} {m0 : zM} (hd : 6 ≤ d) (hI0 : zInv m0) : zC E d 161 [(2, 69)] m0 (fun v m' => ∃ r : Int, v = (0, r) ∧ 0 ≤ r ∧ r ≤ 1 ∧ zInv m' ∧ zFr W_161 m0 m') := sorry

abbrev W_208 : List (Nat × Nat) := [(71, 1000), (72, 1000)]
theorem th_208 {E : zE} {d : Nat} {m0 : zM} {a0 : Int} (hd : 3 ≤ d) (hI0 : zInv m0) (ha0 : (-2147483648) ≤ a0 ∧ a0 ≤ 2147483647) : zC E d 208 [(2, 69), (0, a0)] m0 (fun v m' => ∃ r : Int, v = (0, r) ∧ (-2) ≤ r ∧ r ≤ 1 ∧ zInv m' ∧ zFr W_208 m0 m') := sorry

abbrev W_209 : List (Nat × Nat) := [(70, 1000)]
theorem th_209 {E : zE} {d : Nat} {m0 : zM} {a0 : Int} (hd : 3 ≤ d) (hI0 : zInv m0) (ha0 : (-2147483648) ≤ a0 ∧ a0 ≤ 2147483647) : zC E d 209 [(2, 69), (0, a0)] m0 (fun v m' => ∃ r : Int, v = (0, r) ∧ (-3) ≤ r ∧ r ≤ 1 ∧ zInv m' ∧ zFr W_209 m0 m') := sorry

abbrev W_195 : List (Nat × Nat) := [(69, 3), (69, 4), (69, 5), (69, 6), (69, 7), (69, 9), (69, 11), (69, 13), (69, 17), (69, 18), (73, 1000), (74, 1000), (75, 1000), (76, 1000), (77, 1000), (78, 1000)]
theorem th_195 {E : zE} {d : Nat} {m0 : zM} {a0 : Int} (hd : 14 ≤ d) (hI0 : zInv m0) (ha0 : 0 ≤ a0 ∧ a0 ≤ 3) : zC E d 195 [(2, 69), (0, a0)] m0 (fun v m' => ∃ r : Int, v = (0, r) ∧ (-1) ≤ r ∧ r ≤ 9 ∧ zInv m' ∧ zFr W_195 m0 m') := sorry

abbrev W_34 : List (Nat × Nat) := [(43, 5), (44, 1000), (45, 1), (45, 5), (45, 6), (45, 7), (45, 8), (45, 9), (46, 1000), (47, 1000), (48, 1000), (49, 1000), (50, 1000), (51, 1000), (52, 0), (52, 1), (52, 2), (53, 1000), (54, 1000)]
theorem th_34 {E : zE} {d : Nat} {m0 : zM} {a0 : Int} {a1 : Int} {a2 : Int} (hd : 110 ≤ d) (hI0 : zInv m0) (ha0 : 0 ≤ a0 ∧ a0 ≤ 3) (ha1 : 0 ≤ a1 ∧ a1 ≤ 2) (ha2 : (-2147483648) ≤ a2 ∧ a2 ≤ 2147483647) : zC E d 34 [(2, 52), (0, a0), (0, a1), (0, a2)] m0 (fun v m' => v = (9, 0) ∧ zInv m' ∧ zFr W_34 m0 m') := sorry
