/-- the reader of a part, of a product, of a sum, with fuel -/
def hPa (o : Nat) : Nat := 1 + 3 * (6 - o)
def goPa (N : Nat) (s0 : sT) (b : Nat → Nat) (n t wh : Nat) : Prop := ∀ o, o ≤ 6 → 2 + 4 * (6 - o) ≤ N → ∀ s P C d Q, CCx s0 s b n t wh P C d → rdQ false (hPa o) (fun P' Cp => simP b n wh P P' o Cp) nxA (fun f pl => simX pT1 b n wh P o f pl) s0 b n t wh P C d Q → g6 N 5 0 (nI o) 0 0 Q s
def goPr (N : Nat) (s0 : sT) (b : Nat → Nat) (n t wh : Nat) : Prop := ∀ o, o ≤ 6 → 3 + 4 * (6 - o) ≤ N → ∀ s P C d Q, CCx s0 s b n t wh P C d → rdQ false (1 + hPa o) (fun P' Cp => simM b n wh P P' o Cp) nxM (fun f pl => simX pT2 b n wh P o f pl) s0 b n t wh P C d Q → g6 N 4 0 (nI o) 0 0 Q s
def goSu (N : Nat) (s0 : sT) (b : Nat → Nat) (n t wh : Nat) : Prop := ∀ o, o ≤ 6 → 4 + 4 * (6 - o) ≤ N → ∀ s P C d Q, CCx s0 s b n t wh P C d → rdQ false (2 + hPa o) (fun P' Cp => simS b n wh P P' o Cp) noOp (fun f pl => simX pT3 b n wh P o f pl) s0 b n t wh P C d Q → g6 N 3 0 (nI o) 0 0 Q s
theorem ty_num {wh v : Nat} (h : v < 10000) : typd wh 1 false [1000 + v] := fun st e => by
  rw [tyL_1]
  unfold ty1
  rw [if_pos (by omega), if_pos ⟨by omega, by omega⟩]
theorem ty_part {wh k : Nat} (hk : k < 10) (h : alT wh (40 + k) = true) : typd wh 1 false [40 + k] := fun st e => by
  rw [tyL_1]
  unfold ty1
  rw [if_neg (by omega), if_neg (by omega), if_pos (by omega), if_pos ⟨h, by omega, by omega⟩]
theorem al_part {wh k : Nat} (hw : wh ≤ 2) (hk : k < 10) (h : alw wh k = true) : alT wh (40 + k) = true := by
  have a : ∀ w, w < 3 → ∀ j, j < 10 → alw w j = true → alT w (40 + j) = true := by decide
  exact a wh (by omega) k hk h
/-- a product goes on -/
theorem go_pr {N : Nat} {s0 : sT} {b : Nat → Nat} {n t wh : Nat} (H : goPa N s0 b n t wh) : goPr (N + 1) s0 b n t wh := by
  intro o ho hN s P C d Q R hQ
  obtain ⟨q1, q0⟩ := hQ
  have hm : ∀ i j a b' c (Q Q' : Int32 → sT → Prop) s, g6 N i j a b' c Q s → (∀ r s, Q r s → Q' r s) → g6 N i j a b' c Q' s := fun i j a b' c Q Q' s => mo_g6 N i j a b' c Q Q' s
  show c6_product (g6 N) (nI o) Q s
  refine e_c6_product hm (H o ho (by omega) s P C d _ R ⟨fun s1 P1 C1 R1 hP1 S1 _ T1 => yes1 ?_, fun s1 f pl F1 S1 => no0 (q0 s1 f pl F1 (fun s0' s' C' W B d' v1 Q' R' _ h' => S1 s0' s' C' W B d' v1 Q' R' (fun _ _ => trivial) h'))⟩)
  -- the row of signs
  have loop : ∀ m i s1 P1 C1, n + 1 - P1.1 ≤ m → i < P1.1 → CCx s0 s1 b n t wh P1 (C ++ C1) d → P.1 < P1.1 → simM b n wh P P1 o C1 → typd wh (1 + hPa o) false C1 → c6_product_12 (g6 N) (nI o) (nI i) Q s1 := by
    intro m
    induction m with
    | zero =>
      intro i s1 P1 C1 e hi R1
      have := R1.2.2.1.1
      omega
    | succ m ih =>
      intro i s1 P1 C1 e hi R1 hP1 S1 T1
      have hPn := R1.2.2.1.1
      have hn := R1.2.1.1.1
      -- one more part
      have one : ∀ (c v cl : Nat), (c = 42 ∧ v = 3 ∨ c = 47 ∧ v = 4) → cl = v + 4 → tok b n P1 = tSg c → c8_advance (fun u3 => g6 N 5 0 (nI o) 0 0 (fun y4 u5 => (y4 = 0 → Q (0 : Int32) u5) ∧ (¬ y4 = 0 → c6_put (nI cl) (fun y6 u7 => c6_product_12 (g6 N) (nI o) (nI i + (1 : Int32)) Q u7) u5)) u3) s1 := by
        intro c v cl hcv hcl hT
        refine c_advS R1 hT (fun s2 R2 => H o ho (by omega) s2 (adv b n P1) (C ++ C1) (d + 1) _ R2 ⟨fun s3 P3 C3 R3 hP3 S3 _ T3 => yes1 ?_, fun s3 f pl F3 S3 => no0 (q0 s3 f pl F3 ?_)⟩)
        · have hg := adv_gt (b := b) (n := n) (P := P1)
          have hP3n := R3.2.2.1.1
          refine c_put1 (v := v) R3 (by rcases hcv with y | y <;> (rw [y.2] at hcl ⊢; rw [hcl]; rfl)) (fun s4 R4 => ?_)
          rw [nI_1]
          rw [List.append_assoc, List.append_assoc] at R4
          refine ih (i + 1) s4 P3 (C1 ++ (C3 ++ [v])) (by omega) (by omega) R4 (by omega) ?_ ?_
          · intro s0' s' C' W B d' v1 Q' R' hl h'
            refine S1 s0' s' C' W B d' v1 Q' R' hl (fun t1 D1 ρ E1 e1 g1 => g_mul hcv E1 hT (RC_B R') (fun y => (hl _ y).1 rfl) (fun y => (hl _ y).2.1 rfl) g1 (fun t2 E2 => S3 s0' t2 (D1 ++ ρ) (W ++ [v]) B d' v1 Q' E2 (fun t3 E3 => EE_to E3 (lst_p (by omega)) (h' t3 (D1 ++ ρ ++ C3) [v] E3 (by rw [e1]; simp only [List.append_assoc]) (fun x hx => by rw [List.mem_singleton] at hx; omega)))))
          · have hT2 : typd wh (hPa o + 1) false C1 := by rw [Nat.add_comm]; exact T1
            rw [Nat.add_comm]
            exact typd_2 hT2 T3 (fun st => by rcases hcv with y | y <;> (rw [y.2]; rfl))
        · intro s0' s' C' W B d' v1 Q' R' hl h'
          exact S1 s0' s' C' W B d' v1 Q' R' hl (fun t1 D1 ρ E1 e1 g1 => g_mul hcv E1 hT (RC_B R') (fun y => (hl _ y).1 rfl) (fun y => (hl _ y).2.1 rfl) g1 (fun t2 E2 => S3 s0' t2 (D1 ++ ρ) (W ++ [v]) B d' v1 Q' E2 (fun _ _ => trivial) h'))
      refine e_c6_product_12 hm (br_t (nI_lt (b := 1600) (by omega) (by decide)) (c_sg (c := 42) (by decide) R1 (fun q42 => yes1 ?_) (fun n42 => no0 (c_sg (c := 47) (by decide) R1 (fun q47 => yes1 ?_) (fun n47 => no0 (q1 s1 P1 C1 R1 hP1 S1 ⟨n42, n47⟩ T1))))))
      · exact e_c6_product_43 hm (c_sg (c := 42) (by decide) R1 (fun _ => yes1 (one 42 3 7 (Or.inl ⟨rfl, rfl⟩) rfl q42)) (fun q => absurd q42 q))
      · exact e_c6_product_43 hm (c_sg (c := 42) (by decide) R1 (fun q => absurd q (sg_ne q47 (by decide))) (fun _ => no0 (one 47 4 8 (Or.inr ⟨rfl, rfl⟩) rfl q47)))
  have hPn := R1.2.2.1.1
  refine loop (n + 1 - P1.1) 0 s1 P1 C1 (Nat.le_refl _) (by omega) R1 hP1 ?_ (typd_le T1 (by omega))
  intro s0' s' C' W B d' v1 Q' R' hl h'
  refine S1 s0' s' C' W B d' v1 Q' R' (fun t1 E1 => EE_to E1 (fun x hx => (hl x hx).2.2) (h' t1 (C' ++ C1) [] (by rw [List.reverse_nil, List.append_nil]; exact E1) (by rw [List.append_nil]) (fun x hx => by cases hx)))
/-- a sum goes on -/
theorem go_su {N : Nat} {s0 : sT} {b : Nat → Nat} {n t wh : Nat} (H : goPr N s0 b n t wh) : goSu (N + 1) s0 b n t wh := by
  intro o ho hN s P C d Q R hQ
  obtain ⟨q1, q0⟩ := hQ
  have hm : ∀ i j a b' c (Q Q' : Int32 → sT → Prop) s, g6 N i j a b' c Q s → (∀ r s, Q r s → Q' r s) → g6 N i j a b' c Q' s := fun i j a b' c Q Q' s => mo_g6 N i j a b' c Q Q' s
  have p32 : ∀ x, pT3 x → pT2 x := fun x hx => ⟨fun y => hx.1 (by omega), fun y => hx.1 (by omega), hx.2⟩
  show c6_sum (g6 N) (nI o) Q s
  refine e_c6_sum hm (H o ho (by omega) s P C d _ R ⟨fun s1 P1 C1 R1 hP1 S1 M1 T1 => yes1 ?_, fun s1 f pl F1 S1 => no0 (q0 s1 f pl F1 (fun s0' s' C' W B d' v1 Q' R' hl h' => S1 s0' s' C' W B d' v1 Q' R' (fun x hx => p32 x (hl x hx)) h'))⟩)
  have loop : ∀ m i s1 P1 C1, n + 1 - P1.1 ≤ m → i < P1.1 → CCx s0 s1 b n t wh P1 (C ++ C1) d → P.1 < P1.1 → simS b n wh P P1 o C1 → nxM (tok b n P1) → typd wh (2 + hPa o) false C1 → c6_sum_12 (g6 N) (nI o) (nI i) Q s1 := by
    intro m
    induction m with
    | zero =>
      intro i s1 P1 C1 e hi R1
      have := R1.2.2.1.1
      omega
    | succ m ih =>
      intro i s1 P1 C1 e hi R1 hP1 S1 M1 T1
      have hPn := R1.2.2.1.1
      have hn := R1.2.1.1.1
      have one : ∀ (c v cl : Nat), (c = 43 ∧ v = 1 ∨ c = 45 ∧ v = 2) → cl = v + 4 → tok b n P1 = tSg c → c8_advance (fun u3 => g6 N 4 0 (nI o) 0 0 (fun y4 u5 => (y4 = 0 → Q (0 : Int32) u5) ∧ (¬ y4 = 0 → c6_put (nI cl) (fun y6 u7 => c6_sum_12 (g6 N) (nI o) (nI i + (1 : Int32)) Q u7) u5)) u3) s1 := by
        intro c v cl hcv hcl hT
        refine c_advS R1 hT (fun s2 R2 => H o ho (by omega) s2 (adv b n P1) (C ++ C1) (d + 1) _ R2 ⟨fun s3 P3 C3 R3 hP3 S3 M3 T3 => yes1 ?_, fun s3 f pl F3 S3 => no0 (q0 s3 f pl F3 ?_)⟩)
        · have hg := adv_gt (b := b) (n := n) (P := P1)
          have hP3n := R3.2.2.1.1
          refine c_put1 (v := v) R3 (by rcases hcv with y | y <;> (rw [y.2] at hcl ⊢; rw [hcl]; rfl)) (fun s4 R4 => ?_)
          rw [nI_1]
          rw [List.append_assoc, List.append_assoc] at R4
          refine ih (i + 1) s4 P3 (C1 ++ (C3 ++ [v])) (by omega) (by omega) R4 (by omega) ?_ M3 ?_
          · intro s0' s' C' W B d' v1 Q' R' hl h'
            refine S1 s0' s' C' W B d' v1 Q' R' hl (fun t1 D1 ρ E1 e1 g1 => g_add hcv E1 hT (RC_B R') (fun x hx => (hl x hx).1) g1 (fun t2 E2 => S3 s0' t2 (D1 ++ ρ) (W ++ [v]) B d' v1 Q' E2 (lst_p (p := pT2) ⟨by omega, by omega, by omega⟩) (fun t3 D3 ρ3 E3 e3 g3 => h' t3 D3 (ρ3 ++ [v]) ?_ ?_ (fun x hx => ?_))))
            · rw [List.reverse_append, List.reverse_singleton, ← List.append_assoc]
              exact E3
            · rw [← List.append_assoc, e3, e1]
              simp only [List.append_assoc]
            · rcases List.mem_append.1 hx with y | y
              · have := g3 x y
                omega
              · rw [List.mem_singleton] at y
                omega
          · have hT2 : typd wh (1 + hPa o + 1) false C1 := typd_le T1 (by omega)
            exact typd_le (typd_2 hT2 T3 (fun st => by rcases hcv with y | y <;> (rw [y.2]; rfl))) (by omega)
        · intro s0' s' C' W B d' v1 Q' R' hl h'
          exact S1 s0' s' C' W B d' v1 Q' R' hl (fun t1 D1 ρ E1 e1 g1 => g_add hcv E1 hT (RC_B R') (fun x hx => (hl x hx).1) g1 (fun t2 E2 => S3 s0' t2 (D1 ++ ρ) (W ++ [v]) B d' v1 Q' E2 (lst_p (p := pT2) ⟨by omega, by omega, by omega⟩) h'))
      refine e_c6_sum_12 hm (br_t (nI_lt (b := 1600) (by omega) (by decide)) (c_sg (c := 43) (by decide) R1 (fun q43 => yes1 ?_) (fun n43 => no0 (c_sg (c := 45) (by decide) R1 (fun q45 => yes1 ?_) (fun n45 => no0 (q1 s1 P1 C1 R1 hP1 S1 ⟨M1.1, M1.2, n43, n45⟩ T1))))))
      · exact e_c6_sum_43 hm (c_sg (c := 43) (by decide) R1 (fun _ => yes1 (one 43 1 5 (Or.inl ⟨rfl, rfl⟩) rfl q43)) (fun q => absurd q43 q))
      · exact e_c6_sum_43 hm (c_sg (c := 43) (by decide) R1 (fun q => absurd q (sg_ne q45 (by decide))) (fun _ => no0 (one 45 2 6 (Or.inr ⟨rfl, rfl⟩) rfl q45)))
  have hPn := R1.2.2.1.1
  refine loop (n + 1 - P1.1) 0 s1 P1 C1 (Nat.le_refl _) (by omega) R1 hP1 ?_ M1 (typd_le T1 (by omega))
  intro s0' s' C' W B d' v1 Q' R' hl h'
  exact S1 s0' s' C' W B d' v1 Q' R' (fun x hx => p32 x (hl x hx)) (fun t1 D ρ E1 e1 g1 => h' t1 D ρ E1 e1 (fun x hx => by have := g1 x hx; omega))
