-- a test, in the class
def hFa (o : Nat) : Nat := 4 + 3 * (6 - o)
def pBo (x : Nat) : Prop := pT3 x ∧ x ≠ 10 ∧ x ≠ 12
def pTe (x : Nat) : Prop := pT3 x ∧ x ≠ 10 ∧ x ≠ 11 ∧ x ≠ 12
def simF (b : Nat → Nat) (n tk : Nat) (P P' : pT) (o : Nat) (Cp : List Nat) : Prop := ∀ (s0 s : sT) (C W : List Nat) (B d : Nat) (Q : sT → Prop), RC s0 s b n tk P C W o B (d + 1) → (∀ x, lst W x → pT3 x) → (∀ s', RC s0 s' b n tk P' (C ++ Cp) W o B (d + 1) → EEt Q s') → TWt Q s
def simB (b : Nat → Nat) (n tk : Nat) (P P' : pT) (o : Nat) (Cp : List Nat) : Prop := ∀ (s0 s : sT) (C W : List Nat) (B d : Nat) (Q : sT → Prop), RC s0 s b n tk P C W o B (d + 1) → (∀ x, lst W x → pBo x) → (∀ s' C' ρ, RC s0 s' b n tk P' C' (W ++ ρ.reverse) o B (d + 1) → C' ++ ρ = C ++ Cp → (∀ x, x ∈ ρ → x = 10) → c12_qGoesOnTest (FFt Q) s') → TWt Q s
def simT (b : Nat → Nat) (n tk : Nat) (P P' : pT) (o : Nat) (Cp : List Nat) : Prop := ∀ (s0 s : sT) (C W : List Nat) (B d : Nat) (Q : sT → Prop), RC s0 s b n tk P C W o B (d + 1) → (∀ x, lst W x → pTe x) → (∀ s' C' ρ, RC s0 s' b n tk P' C' (W ++ ρ.reverse) o B (d + 1) → C' ++ ρ = C ++ Cp → (∀ x, x ∈ ρ → x = 10 ∨ x = 11) → c12_qGoesOnTest (FFt Q) s') → TWt Q s
def simY (p : Nat → Prop) (b : Nat → Nat) (n tk : Nat) (P : pT) (o f pl : Nat) : Prop := ∀ (s0 s : sT) (C W : List Nat) (B d : Nat) (Q : sT → Prop), RC s0 s b n tk P C W o B (d + 1) → (∀ x, lst W x → p x) → (∀ s', Fr XPR s0 s' → RX s' f pl → Q s') → TWt Q s
def nxB (T : Tok) : Prop := T ≠ tWd [97, 110, 100]
def nxT (T : Tok) : Prop := T ≠ tWd [97, 110, 100] ∧ T ≠ tWd [111, 114]
def goFa (N : Nat) (s0 : sT) (b : Nat → Nat) (n t wh : Nat) : Prop := ∀ o, o ≤ 6 → 5 + 4 * (6 - o) ≤ N → ∀ s P C d Q, CCx s0 s b n t wh P C d → rdQ true (hFa o) (fun P' Cp => simF b n wh P P' o Cp) nxA (fun f pl => simY pT3 b n wh P o f pl) s0 b n t wh P C d Q → g6 N 2 0 (nI o) 0 0 Q s
def goBo (N : Nat) (s0 : sT) (b : Nat → Nat) (n t wh : Nat) : Prop := ∀ o, o ≤ 6 → 6 + 4 * (6 - o) ≤ N → ∀ s P C d Q, CCx s0 s b n t wh P C d → rdQ true (1 + hFa o) (fun P' Cp => simB b n wh P P' o Cp) nxB (fun f pl => simY pBo b n wh P o f pl) s0 b n t wh P C d Q → g6 N 1 0 (nI o) 0 0 Q s
def goTe (N : Nat) (s0 : sT) (b : Nat → Nat) (n t wh : Nat) : Prop := ∀ o, o ≤ 6 → 7 + 4 * (6 - o) ≤ N → ∀ s P C d Q, CCx s0 s b n t wh P C d → rdQ true (2 + hFa o) (fun P' Cp => simT b n wh P P' o Cp) nxT (fun f pl => simY pTe b n wh P o f pl) s0 b n t wh P C d Q → g6 N 0 0 (nI o) 0 0 Q s
theorem go_bo {N : Nat} {s0 : sT} {b : Nat → Nat} {n t wh : Nat} (H : goFa N s0 b n t wh) : goBo (N + 1) s0 b n t wh := by
  intro o ho hN s P C d Q R hQ
  obtain ⟨q1, q0⟩ := hQ
  have hm : ∀ i j a b' c (Q Q' : Int32 → sT → Prop) s, g6 N i j a b' c Q s → (∀ r s, Q r s → Q' r s) → g6 N i j a b' c Q' s := fun i j a b' c Q Q' s => mo_g6 N i j a b' c Q Q' s
  show c6_both (g6 N) (nI o) Q s
  refine e_c6_both hm (H o ho (by omega) s P C d _ R ⟨fun s1 P1 C1 R1 hP1 S1 _ T1 => yes1 ?_, fun s1 f pl F1 S1 => no0 (q0 s1 f pl F1 (fun s0' s' C' W B d' Q' R' hl h' => S1 s0' s' C' W B d' Q' R' (fun x hx => (hl x hx).1) h'))⟩)
  have loop : ∀ m i s1 P1 C1, n + 1 - P1.1 ≤ m → i < P1.1 → CCx s0 s1 b n t wh P1 (C ++ C1) d → P.1 < P1.1 → simB b n wh P P1 o C1 → typd wh (1 + hFa o) true C1 → c6_both_12 (g6 N) (nI o) (nI i) Q s1 := by
    intro m
    induction m with
    | zero =>
      intro i s1 P1 C1 e hi R1
      have := R1.2.2.1.1
      omega
    | succ m ih =>
      intro i s1 P1 C1 e hi R1 hP1 S1 T1
      have hPn := R1.2.2.1.1
      have hn := R1.2.1.1.1
      refine e_c6_both_12 hm (br_t (nI_lt (b := 1600) (by omega) (by decide)) (c_wd (l := [97, 110, 100]) (by decide) R1 (fun hT => yes1 (c_advW R1 hT (fun s2 R2 => H o ho (by omega) s2 (adv b n P1) (C ++ C1) (d + 1) _ R2 ⟨fun s3 P3 C3 R3 hP3 S3 _ T3 => yes1 ?_, fun s3 f pl F3 S3 => no0 (q0 s3 f pl F3 ?_)⟩))) (fun nT => no0 (q1 s1 P1 C1 R1 hP1 S1 nT T1))))
      · have hg := adv_gt (b := b) (n := n) (P := P1)
        have hP3n := R3.2.2.1.1
        refine c_put1 (c := 14) (v := 10) R3 rfl (fun s4 R4 => ?_)
        rw [nI_1]
        rw [List.append_assoc, List.append_assoc] at R4
        refine ih (i + 1) s4 P3 (C1 ++ (C3 ++ [10])) (by omega) (by omega) R4 (by omega) ?_ ?_
        · intro s0' s' C' W B d' Q' R' hl h'
          refine S1 s0' s' C' W B d' Q' R' hl (fun t1 D1 ρ E1 e1 g1 => t_and E1 hT (RC_B R') (fun y => (hl _ y).2.1 rfl) g1 (fun t2 E2 => S3 s0' t2 (D1 ++ ρ) (W ++ [10]) B d' Q' E2 (lst_p (p := pT3) ⟨by omega, by decide⟩) (fun t3 E3 => EEt_to E3 (fun y => by rw [lst_ap] at y; omega) (h' t3 (D1 ++ ρ ++ C3) [10] E3 (by rw [e1]; simp only [List.append_assoc]) (fun x hx => List.mem_singleton.1 hx)))))
        · have hT2 : typd wh (hFa o + 1) true C1 := typd_le T1 (by omega)
          exact typd_le (typd_2 hT2 T3 (fun st => rfl)) (by omega)
      · intro s0' s' C' W B d' Q' R' hl h'
        exact S1 s0' s' C' W B d' Q' R' hl (fun t1 D1 ρ E1 e1 g1 => t_and E1 hT (RC_B R') (fun y => (hl _ y).2.1 rfl) g1 (fun t2 E2 => S3 s0' t2 (D1 ++ ρ) (W ++ [10]) B d' Q' E2 (lst_p (p := pT3) ⟨by omega, by decide⟩) h'))
  have hPn := R1.2.2.1.1
  refine loop (n + 1 - P1.1) 0 s1 P1 C1 (Nat.le_refl _) (by omega) R1 hP1 ?_ (typd_le T1 (by omega))
  intro s0' s' C' W B d' Q' R' hl h'
  exact S1 s0' s' C' W B d' Q' R' (fun x hx => (hl x hx).1) (fun t1 E1 => EEt_to E1 (fun y => (hl _ y).2.2 rfl) (h' t1 (C' ++ C1) [] (by rw [List.reverse_nil, List.append_nil]; exact E1) (by rw [List.append_nil]) (fun x hx => by cases hx)))
theorem go_te {N : Nat} {s0 : sT} {b : Nat → Nat} {n t wh : Nat} (H : goBo N s0 b n t wh) : goTe (N + 1) s0 b n t wh := by
  intro o ho hN s P C d Q R hQ
  obtain ⟨q1, q0⟩ := hQ
  have hm : ∀ i j a b' c (Q Q' : Int32 → sT → Prop) s, g6 N i j a b' c Q s → (∀ r s, Q r s → Q' r s) → g6 N i j a b' c Q' s := fun i j a b' c Q Q' s => mo_g6 N i j a b' c Q Q' s
  have pb : ∀ x, pTe x → pBo x := fun x hx => ⟨hx.1, hx.2.1, hx.2.2.2⟩
  show c6_test (g6 N) (nI o) Q s
  refine e_c6_test hm (H o ho (by omega) s P C d _ R ⟨fun s1 P1 C1 R1 hP1 S1 M1 T1 => yes1 ?_, fun s1 f pl F1 S1 => no0 (q0 s1 f pl F1 (fun s0' s' C' W B d' Q' R' hl h' => S1 s0' s' C' W B d' Q' R' (fun x hx => pb x (hl x hx)) h'))⟩)
  have loop : ∀ m i s1 P1 C1, n + 1 - P1.1 ≤ m → i < P1.1 → CCx s0 s1 b n t wh P1 (C ++ C1) d → P.1 < P1.1 → simT b n wh P P1 o C1 → nxB (tok b n P1) → typd wh (2 + hFa o) true C1 → c6_test_12 (g6 N) (nI o) (nI i) Q s1 := by
    intro m
    induction m with
    | zero =>
      intro i s1 P1 C1 e hi R1
      have := R1.2.2.1.1
      omega
    | succ m ih =>
      intro i s1 P1 C1 e hi R1 hP1 S1 M1 T1
      have hPn := R1.2.2.1.1
      have hn := R1.2.1.1.1
      refine e_c6_test_12 hm (br_t (nI_lt (b := 1600) (by omega) (by decide)) (c_wd (l := [111, 114]) (by decide) R1 (fun hT => yes1 (c_advW R1 hT (fun s2 R2 => H o ho (by omega) s2 (adv b n P1) (C ++ C1) (d + 1) _ R2 ⟨fun s3 P3 C3 R3 hP3 S3 M3 T3 => yes1 ?_, fun s3 f pl F3 S3 => no0 (q0 s3 f pl F3 ?_)⟩))) (fun nT => no0 (q1 s1 P1 C1 R1 hP1 S1 ⟨M1, nT⟩ T1))))
      · have hg := adv_gt (b := b) (n := n) (P := P1)
        have hP3n := R3.2.2.1.1
        refine c_put1 (c := 15) (v := 11) R3 rfl (fun s4 R4 => ?_)
        rw [nI_1]
        rw [List.append_assoc, List.append_assoc] at R4
        refine ih (i + 1) s4 P3 (C1 ++ (C3 ++ [11])) (by omega) (by omega) R4 (by omega) ?_ M3 ?_
        · intro s0' s' C' W B d' Q' R' hl h'
          refine S1 s0' s' C' W B d' Q' R' hl (fun t1 D1 ρ E1 e1 g1 => t_or E1 hT (RC_B R') (fun y => (hl _ y).2.1 rfl) (fun y => (hl _ y).2.2.1 rfl) g1 (fun t2 E2 => S3 s0' t2 (D1 ++ ρ) (W ++ [11]) B d' Q' E2 (lst_p (p := pBo) ⟨⟨by omega, by decide⟩, by decide, by decide⟩) (fun t3 D3 ρ3 E3 e3 g3 => h' t3 D3 (ρ3 ++ [11]) ?_ ?_ (fun x hx => ?_))))
          · rw [List.reverse_append, List.reverse_singleton, ← List.append_assoc]
            exact E3
          · rw [← List.append_assoc, e3, e1]
            simp only [List.append_assoc]
          · rcases List.mem_append.1 hx with y | y
            · exact Or.inl (g3 x y)
            · exact Or.inr (List.mem_singleton.1 y)
        · have hT2 : typd wh (1 + hFa o + 1) true C1 := typd_le T1 (by omega)
          exact typd_le (typd_2 hT2 T3 (fun st => rfl)) (by omega)
      · intro s0' s' C' W B d' Q' R' hl h'
        exact S1 s0' s' C' W B d' Q' R' hl (fun t1 D1 ρ E1 e1 g1 => t_or E1 hT (RC_B R') (fun y => (hl _ y).2.1 rfl) (fun y => (hl _ y).2.2.1 rfl) g1 (fun t2 E2 => S3 s0' t2 (D1 ++ ρ) (W ++ [11]) B d' Q' E2 (lst_p (p := pBo) ⟨⟨by omega, by decide⟩, by decide, by decide⟩) h'))
  have hPn := R1.2.2.1.1
  refine loop (n + 1 - P1.1) 0 s1 P1 C1 (Nat.le_refl _) (by omega) R1 hP1 ?_ M1 (typd_le T1 (by omega))
  intro s0' s' C' W B d' Q' R' hl h'
  exact S1 s0' s' C' W B d' Q' R' (fun x hx => pb x (hl x hx)) (fun t1 D ρ E1 e1 g1 => h' t1 D ρ E1 e1 (fun x hx => Or.inl (g1 x hx)))
theorem go_fa {N : Nat} {s0 : sT} {b : Nat → Nat} {n t wh : Nat} (HS : goSu N s0 b n t wh) (HF : goFa N s0 b n t wh) (HT : goTe N s0 b n t wh) : goFa (N + 1) s0 b n t wh := by
  intro o ho hN s P C d Q R hQ
  obtain ⟨q1, q0⟩ := hQ
  have hm : ∀ i j a b' c (Q Q' : Int32 → sT → Prop) s, g6 N i j a b' c Q s → (∀ r s, Q r s → Q' r s) → g6 N i j a b' c Q' s := fun i j a b' c Q Q' s => mo_g6 N i j a b' c Q Q' s
  have hg := adv_gt (b := b) (n := n) (P := P)
  have hp12 : pT3 12 := ⟨by omega, by decide⟩
  have hp25 : pTe 25 := ⟨⟨by omega, by decide⟩, by decide, by decide, by decide⟩
  show c6_fact (g6 N) (nI o) Q s
  refine e_c6_fact hm (c_wd (l := [110, 111, 116]) (by decide) R (fun hT => yes1 ?_) (fun nno => no0 (c_sg (c := 91) (by decide) R (fun hT => yes1 ?_) (fun nsq => no0 (c_wd (l := [97, 108, 108]) (by decide) R (fun hT => yes1 ?_) (fun nal => no0 ?_))))))
  · refine c_opens ho R (tw_lt hT) (tw_stk hT) (fun ho6 s1 R1 => yes1 ?_) (fun ho6 s1 F1 => no0 (q0 s1 4 P.1 F1 (fun s0' s' C' W B d' Q' R' _ h' => t_not R' hT (fun y => by omega) (fun _ t1 F X => h' t1 F X.1))))
    rw [nI_1]
    refine HF (o + 1) (by omega) (by omega) s1 (adv b n P) C (d + 1) _ R1 ⟨fun s2 P2 C2 R2 hP2 S2 _ T2 => yes1 ?_, fun s2 f pl F2 S2 => no0 (q0 s2 f pl F2 (fun s0' s' C' W B d' Q' R' _ h' => t_not R' hT (fun _ t1 E1 => S2 s0' t1 C' (W ++ [12]) B d' Q' E1 (lst_p hp12) h') (fun y => by omega)))⟩
    refine c_put1 (c := 2) (v := 12) R2 rfl (fun s3 R3 => yes1 (q1 s3 P2 (C2 ++ [12]) (by rw [List.append_assoc] at R3; exact R3) (by omega) ?_ trivial ?_))
    · intro s0' s' C' W B d' Q' R' hl h'
      refine t_not R' hT (fun _ t1 E1 => S2 s0' t1 C' (W ++ [12]) B d' Q' E1 (lst_p hp12) (fun t2 E2 => EEt_12 (RC_B R') E2 (fun t3 E3 => h' t3 (by rw [List.append_assoc] at E3; exact E3)))) (fun y => by omega)
    · exact typd_le (typd_1 T2 (fun st => rfl)) (by unfold hFa; omega)
  · refine c_opens ho R (ts_lt hT) (ts_stk hT) (fun ho6 s1 R1 => yes1 ?_) (fun ho6 s1 F1 => no0 (q0 s1 4 P.1 F1 (fun s0' s' C' W B d' Q' R' _ h' => t_sq R' hT (fun y => by omega) (fun _ t1 F X => h' t1 F X.1))))
    rw [nI_1]
    refine HT (o + 1) (by omega) (by omega) s1 (adv b n P) C (d + 1) _ R1 ⟨fun s2 P2 C2 R2 hP2 S2 M2 T2 => yes1 ?_, fun s2 f pl F2 S2 => no0 (q0 s2 f pl F2 (fun s0' s' C' W B d' Q' R' _ h' => t_sq R' hT (fun _ t1 E1 => S2 s0' t1 C' (W ++ [25]) B d' Q' E1 (lst_p hp25) h') (fun y => by omega)))⟩
    have hg2 := adv_gt (b := b) (n := n) (P := P2)
    refine c_tkS (c := 93) (by decide) R2 (fun hT2 s3 R3 => yes1 (q1 s3 (adv b n P2) C2 ?_ (by omega) ?_ trivial (typd_le T2 (by unfold hFa; omega)))) (fun hT2 s3 F3 => no0 (q0 s3 1 P2.1 F3 (fun s0' s' C' W B d' Q' R' _ h' => t_sq R' hT (fun _ t1 E1 => S2 s0' t1 C' (W ++ [25]) B d' Q' E1 (lst_p hp25) (fun t2 D ρ E2 e2 g2 => t_stop E2 hT2 M2.1 M2.2 (fun t3 F X => h' t3 F X.1))) (fun y => by omega))))
    · obtain ⟨r1, r2, r3, r4, r5, r6, r7, r8, r9⟩ := R3
      exact ⟨r1, r2, r3, r4, r5, r6, r7, by omega, r9⟩
    · intro s0' s' C' W B d' Q' R' hl h'
      exact t_sq R' hT (fun _ t1 E1 => S2 s0' t1 C' (W ++ [25]) B d' Q' E1 (lst_p hp25) (fun t2 D ρ E2 e2 g2 => t_close E2 hT2 (RC_B R') g2 (fun t3 E3 => h' t3 (by rw [← e2]; exact E3)))) (fun y => by omega)
  · refine c_advW R hT (fun s1 R1 => c_put (c := 0) (v := 13) (k := 1) R1 rfl (fun s2 R2 => ⟨Or.inr rfl, q1 s2 (adv b n P) [13] R2 hg (fun s0' s' C' W B d' Q' R' _ h' => t_all R' hT h') trivial (fun st e => ?_)⟩))
    rw [tyL_1]
    unfold ty1
    unfold hFa at e
    rw [if_neg (by decide), if_neg (by decide), if_neg (by decide), if_pos rfl, if_pos (by omega)]
  · refine HS o ho (by omega) s P C d _ R ⟨fun s1 P1 C1 R1 hP1 S1 M1 T1 => yes1 ?_, fun s1 f pl F1 S1 => no0 (q0 s1 f pl F1 (fun s0' s' C' W B d' Q' R' hl h' => t_cmp R' nsq nno nal (fun t1 E1 => S1 s0' t1 C' W W.length d' (nI B) (CQ1 (FQt Q')) E1 hl (fun s' F X => LP_bad F X (fun s'' F' X' => cq1_bad X'.1 (FQ_bad X'.1 (h' s'' F' X'.1)))))))⟩
    have hg1 := adv_gt (b := b) (n := n) (P := P1)
    -- the second sum
    have snd : ∀ (c v : Nat), (c = 60 ∧ v = 7 ∨ c = 62 ∧ v = 8 ∨ c = 61 ∧ v = 9) → tok b n P1 = tSg c → c8_advance (fun u13 => g6 N 3 0 (nI o) 0 0 (fun y14 u15 => (y14 = 0 → Q (0 : Int32) u15) ∧ (¬ y14 = 0 → c6_put (nI (v + 4)) (fun y16 u17 => (y16 = 0 → Q (0 : Int32) u17) ∧ (¬ y16 = 0 → Q (1 : Int32) u17)) u15)) u13) s1 := by
      intro c v hcv hT
      have hc3 : c = 60 ∨ c = 62 ∨ c = 61 := by omega
      have pre : ∀ {s0' s' : sT} {C' W : List Nat} {B d' : Nat} {Q' : sT → Prop}, RC s0' s' b n wh P C' W o B (d' + 1) → (∀ x, lst W x → pT3 x) → (∀ t4, RC s0' t4 b n wh (adv b n P1) (C' ++ C1) W o W.length (d' + 1 + 1) → SWq (nI B) (CQ2 (FQt Q') (nI c)) t4) → TWt Q' s' := fun {s0' s' C' W B d' Q'} R' hl h' => t_cmp R' nsq nno nal (fun t1 E1 => S1 s0' t1 C' W W.length d' (nI B) (CQ1 (FQt Q')) E1 hl (fun t2 D ρ E2 e2 g2 => g_end (RC_B R') E2 g2 M1 (fun t3 E3 => cq1_go hc3 E3 hT (fun t4 E4 => h' t4 (by rw [← e2]; exact E4)))))
      refine c_advS R1 hT (fun s2 R2 => HS o ho (by omega) s2 (adv b n P1) (C ++ C1) (d + 1) _ R2 ⟨fun s3 P3 C3 R3 hP3 S3 M3 T3 => yes1 ?_, fun s3 f pl F3 S3 => no0 (q0 s3 f pl F3 (fun s0' s' C' W B d' Q' R' hl h' => pre R' hl (fun t4 E4 => S3 s0' t4 (C' ++ C1) W W.length (d' + 1) (nI B) (CQ2 (FQt Q') (nI c)) E4 hl (fun s' F X => LP_bad F X (fun s'' F' X' => cq2_bad F' X' (fun s3 F3 X3 => FQ_bad X3 (h' s3 F3 X3)))))))⟩)
      refine c_put1 (v := v) R3 (by rcases hcv with y | y | y <;> (rw [y.2]; rfl)) (fun s4 R4 => yes1 (q1 s4 P3 (C1 ++ (C3 ++ [v])) (by rw [List.append_assoc, List.append_assoc] at R4; exact R4) (by omega) ?_ trivial ?_))
      · intro s0' s' C' W B d' Q' R' hl h'
        refine pre R' hl (fun t4 E4 => S3 s0' t4 (C' ++ C1) W W.length (d' + 1) (nI B) (CQ2 (FQt Q') (nI c)) E4 hl (fun t5 D5 ρ5 E5 e5 g5 => g_end (RC_B R') E5 g5 M3 (fun t6 E6 => cq2_go hcv E6 (fun t7 E7 => EEt_KK (h' t7 ?_)))))
        rw [e5] at E7
        simp only [List.append_assoc] at E7 ⊢
        exact E7
      · have T1' : typd wh (2 + hPa o + 1) false C1 := typd_le T1 (by omega)
        refine typd_le (typd_2 T1' T3 (fun st => ?_)) (by unfold hFa hPa; omega)
        rcases hcv with y | y | y <;> (rw [y.2]; rfl)
    refine e_c6_comparisonHere (c_sg (c := 60) (by decide) R1 (fun hT => yes1 (br_f (by decide) (snd 60 7 (Or.inl ⟨rfl, rfl⟩) hT))) (fun n60 => no0 (c_sg (c := 62) (by decide) R1 (fun hT => yes1 (br_f (by decide) (snd 62 8 (Or.inr (Or.inl ⟨rfl, rfl⟩)) hT))) (fun n62 => no0 (c_sg (c := 61) (by decide) R1 (fun hT => yes1 (br_f (by decide) (snd 61 9 (Or.inr (Or.inr ⟨rfl, rfl⟩)) hT))) (fun n61 => no0 (br_t rfl (c_failC (f := 1) (by decide) R1 (fun s2 F2 => ⟨Or.inl rfl, q0 s2 1 P1.1 F2 (fun s0' s' C' W B d' Q' R' hl h' => t_cmp R' nsq nno nal (fun t1 E1 => S1 s0' t1 C' W W.length d' (nI B) (CQ1 (FQt Q')) E1 hl (fun t2 D ρ E2 e2 g2 => g_end (RC_B R') E2 g2 M1 (fun t3 E3 => cq1_no E3 n60 n62 n61 (fun t4 F X => FQ_bad X.1 (h' t4 F X.1))))))⟩)))))))))
theorem go_tests {s0 : sT} {b : Nat → Nat} {n t wh : Nat} : ∀ N, goFa N s0 b n t wh ∧ goBo N s0 b n t wh ∧ goTe N s0 b n t wh
  | 0 => ⟨fun o _ h => by omega, fun o _ h => by omega, fun o _ h => by omega⟩
  | N + 1 => by
    obtain ⟨a1, a2, a3⟩ := go_tests (s0 := s0) (b := b) (n := n) (t := t) (wh := wh) N
    exact ⟨go_fa (go_sums N).1.2.2 a1 a3, go_bo a1, go_te a2⟩
