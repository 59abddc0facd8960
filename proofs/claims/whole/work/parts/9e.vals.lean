-- what lies in the cells at the start
set_option maxRecDepth 100000 in
theorem v0_a : rI s0 2 1 = nI 0 ∧ rI s0 162 1 = nI 0 ∧ rI s0 0 16 = rI s0 162 7 ∧ rI s0 0 17 = rI s0 162 8 ∧ rI s0 0 14 = nI 0 ∧ rI s0 162 111 = nI 0 ∧ rI s0 0 15 = nI 1 ∧ rJ s0 162 75 = lN 1 := by decide +kernel
set_option maxRecDepth 100000 in
theorem v0_b : ∀ k, k < 6 → rI s0 1 k = rI s0 164 k := by decide +kernel
set_option maxRecDepth 100000 in
theorem v0_c : rI s0 162 49 = 0 ∧ rI s0 21 1 = nI 4 ∧ rI s0 21 4 = nI 0 ∧ rI s0 193 9 = nI 0 ∧ rI s0 21 0 = nI 0 ∧ rI s0 21 2 = nI 0 ∧ rI s0 21 3 = nI 0 ∧ rI s0 193 5 = nI 0 ∧ rI s0 193 7 = nI 0 ∧ rI s0 193 8 = nI 0 ∧ rI s0 197 3 = (-1 : Int32) ∧ rI s0 197 2 = (-1 : Int32) := by decide +kernel
set_option maxRecDepth 100000 in
theorem v0_d : rI s0 38 0 = nI 0 ∧ rI s0 39 0 = 0 ∧ rI s0 38 6 = nI 0 ∧ rI s0 38 5 = nI 0 ∧ rI s0 148 6 = nI 0 ∧ rI s0 148 5 = nI 0 ∧ rI s0 162 64 = 0 ∧ rI s0 43 1 = nI 0 ∧ rI s0 43 2 = nI 0 ∧ rI s0 162 73 = nI 0 ∧ rI s0 162 74 = nI 0 ∧ rI s0 147 7 = nI 0 ∧ rI s0 162 69 = nI 0 ∧ rJ s0 35 6 = 0 ∧ rI s0 35 3 = 0 := by decide +kernel
set_option maxRecDepth 100000 in
theorem v0_e : ∀ k, k < 25 → rI s0 39 k = nI 0 := by decide +kernel
set_option maxRecDepth 100000 in
theorem v0_f : ∀ k, k < 6 → rI s0 40 k = nI 0 ∧ rI s0 41 k = nI 0 := by decide +kernel
set_option maxRecDepth 100000 in
theorem v0_g : ∀ k, k < 38 → rI s0 200 k = nI 0 := by decide +kernel
set_option maxRecDepth 100000 in
theorem v0_h : ∀ n, n < 24 → rJ s0 36 (n + 1) = lN (5354228880 / (n + 1)) := by decide +kernel
set_option maxRecDepth 100000 in
theorem v0_w : wRows.all (fun q => (List.range q.2.length).all (fun k => decide (rI s0 q.1 k = nI (q.2.getD k 0)))) = true := by decide +kernel
