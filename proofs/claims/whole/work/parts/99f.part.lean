theorem pT3_br {k : Nat} (h : 20 ≤ k) (h2 : k < 60) : pT3 k := ⟨fun y => by omega, h2⟩
theorem tw_ne {b : Nat → Nat} {n : Nat} {P : pT} {l l' : List Nat} (h : tok b n P = tWd l) (q : l ≠ l') : tok b n P ≠ tWd l' := fun y => q (Prod.mk.inj (h.symm.trans y)).2
theorem tw_sg {b : Nat → Nat} {n c : Nat} {P : pT} {l : List Nat} (h : tok b n P = tWd l) : tok b n P ≠ tSg c := fun y => absurd (Prod.mk.inj (h.symm.trans y)).1 (by decide)
theorem ts_wd {b : Nat → Nat} {n c : Nat} {P : pT} {l : List Nat} (h : tok b n P = tSg c) : tok b n P ≠ tWd l := fun y => absurd (Prod.mk.inj (h.symm.trans y)).1 (by decide)
theorem ts_stk {b : Nat → Nat} {n c : Nat} {P : pT} (h : tok b n P = tSg c) : tok b n P ≠ tStk := fun y => absurd (Prod.mk.inj (h.symm.trans y)).1 (by decide)
theorem tw_stk {b : Nat → Nat} {n : Nat} {P : pT} {l : List Nat} (h : tok b n P = tWd l) : tok b n P ≠ tStk := fun y => absurd (Prod.mk.inj (h.symm.trans y)).1 (by decide)
theorem ts_lt {b : Nat → Nat} {n c : Nat} {P : pT} (h : tok b n P = tSg c) : P.1 < n := tk_lt h (fun y => absurd (Prod.mk.inj y).1 (by decide))
theorem tw_lt {b : Nat → Nat} {n : Nat} {P : pT} {l : List Nat} (h : tok b n P = tWd l) : P.1 < n := tk_lt h (fun y => absurd (Prod.mk.inj y).1 (by decide))
/-- one sum between brackets -/
theorem go_round {N : Nat} {s0 : sT} {b : Nat → Nat} {n t wh : Nat} (H : goSu N s0 b n t wh) {o : Nat} (ho : o ≤ 6) (hN : 4 * (6 - o) ≤ N) {s : sT} {P : pT} {C : List Nat} {d : Nat} {Q : Int32 → sT → Prop} (R : CCx s0 s b n t wh P C d) (hQ : rdQ false (hPa o) (fun P' Cp => simP b n wh P P' o Cp) nxA (fun f pl => simX pT1 b n wh P o f pl) s0 b n t wh P C d Q) (hT : tok b n P = tSg 40) : c6_opens (nI o) (fun y24 u25 => (y24 = 0 → Q (0 : Int32) u25) ∧ (¬ y24 = 0 → g6 N 3 0 (nI o + (1 : Int32)) 0 0 (fun y26 u27 => (y26 = 0 → Q (0 : Int32) u27) ∧ (¬ y26 = 0 → c8_takeSign (41 : Int32) (fun y28 u29 => (y28 = 0 → Q (0 : Int32) u29) ∧ (¬ y28 = 0 → Q (1 : Int32) u29)) u27)) u25)) s := by
  obtain ⟨q1, q0⟩ := hQ
  refine c_opens ho R (ts_lt hT) (ts_stk hT) (fun ho6 s1 R1 => yes1 ?_) (fun ho6 s1 F1 => no0 (q0 s1 4 P.1 F1 (fun s0' s' C' W B d' v1 Q' R' _ h' => s_open R' hT (fun y => by omega) (fun _ => h'))))
  rw [nI_1]
  refine H (o + 1) (by omega) (by omega) s1 (adv b n P) C (d + 1) _ R1 ⟨fun s2 P2 C2 R2 hP2 S2 M2 T2 => yes1 ?_, fun s2 f pl F2 S2 => no0 (q0 s2 f pl F2 (fun s0' s' C' W B d' v1 Q' R' _ h' => s_open R' hT (fun _ t1 E1 => S2 s0' t1 C' (W ++ [20]) B d' v1 Q' E1 (lst_p (pT3_br (by decide) (by decide))) h') (fun y => by omega)))⟩
  have hg := adv_gt (b := b) (n := n) (P := P)
  refine c_tkS (c := 41) (by decide) R2 (fun hT2 s3 R3 => yes1 ?_) (fun hT2 s3 F3 => no0 (q0 s3 1 P2.1 F3 (fun s0' s' C' W B d' v1 Q' R' _ h' => s_open R' hT (fun _ t1 E1 => S2 s0' t1 C' (W ++ [20]) B d' v1 Q' E1 (lst_p (pT3_br (by decide) (by decide))) (fun t2 D ρ E2 e2 g2 => g_stop (k := 20) (Or.inl rfl) E2 (RC_B R') g2 M2 hT2 h')) (fun y => by omega))))
  have hg2 := adv_gt (b := b) (n := n) (P := P2)
  refine q1 s3 (adv b n P2) C2 ?_ (by omega) ?_ trivial (typd_le T2 (by unfold hPa; omega))
  · obtain ⟨r1, r2, r3, r4, r5, r6, r7, r8, r9⟩ := R3
    exact ⟨r1, r2, r3, r4, r5, r6, r7, by omega, r9⟩
  · intro s0' s' C' W B d' v1 Q' R' h'
    refine s_open R' hT (fun _ t1 E1 => S2 s0' t1 C' (W ++ [20]) B d' v1 Q' E1 (lst_p (pT3_br (by decide) (by decide))) (fun t2 D ρ E2 e2 g2 => g_close (k := 20) (Or.inl rfl) E2 hT2 (RC_B R') g2 (fun t3 E3 => h' t3 ?_))) (fun y => by omega)
    rw [if_pos rfl, List.append_nil, e2] at E3
    exact E3
/-- the less, the greater of two -/
theorem go_pair {N k : Nat} {s0 : sT} {b : Nat → Nat} {n t wh : Nat} (H : goSu N s0 b n t wh) {o : Nat} (ho : o ≤ 6) (hN : 4 * (6 - o) ≤ N) {s : sT} {P : pT} {C : List Nat} {d : Nat} {Q : Int32 → sT → Prop} (R : CCx s0 s b n t wh P C d) (hQ : rdQ false (hPa o) (fun P' Cp => simP b n wh P P' o Cp) nxA (fun f pl => simX pT1 b n wh P o f pl) s0 b n t wh P C d Q) (hk : k = 0 ∧ tok b n P = tWd [109, 105, 110] ∨ k = 1 ∧ tok b n P = tWd [109, 97, 120]) : c6_pair (g6 N) (nI o) (nI (9 + k)) Q s := by
  obtain ⟨q1, q0⟩ := hQ
  have hm : ∀ i j a b' c (Q Q' : Int32 → sT → Prop) s, g6 N i j a b' c Q s → (∀ r s, Q r s → Q' r s) → g6 N i j a b' c Q' s := fun i j a b' c Q Q' s => mo_g6 N i j a b' c Q Q' s
  have hwd : ∃ l, tok b n P = tWd l := by rcases hk with q | q <;> exact ⟨_, q.2⟩
  obtain ⟨l, hl⟩ := hwd
  have hk2 : k < 2 := by rcases hk with q | q <;> omega
  have hg0 := adv_gt (b := b) (n := n) (P := P)
  refine e_c6_pair hm (c_advW R hl (fun s1 R1 => c_sg (c := 40) (by decide) R1 (fun hT => yes1 ?_) (fun hT => no0 (c_failC (f := 1) (by decide) R1 (fun s2 F2 => ⟨Or.inl rfl, q0 s2 1 _ F2 (fun s0' s' C' W B d' v1 Q' R' _ h' => s_pair hk R' (fun y => absurd y hT) (fun y => absurd y hT) (fun _ => h'))⟩)))))
  refine c_opens ho R1 (ts_lt hT) (ts_stk hT) (fun ho6 s2 R2 => yes1 ?_) (fun ho6 s2 F2 => no0 (q0 s2 4 _ F2 (fun s0' s' C' W B d' v1 Q' R' _ h' => s_pair hk R' (fun _ y => by omega) (fun _ _ => h') (fun y => absurd hT y))))
  have pr : ∀ {s0' s' : sT} {C' W : List Nat} {B d' : Nat} {v1 : Int32} {Q' : sT → Prop}, RC s0' s' b n wh P C' W o B (d' + 1) → (∀ t1, RC s0' t1 b n wh (adv b n (adv b n P)) C' (W ++ [21 + k]) (o + 1) B (d' + 1) → SWq v1 Q' t1) → SWq v1 Q' s' := fun R' h' => s_pair hk R' (fun _ _ => h') (fun _ y => by omega) (fun y => absurd hT y)
  have hg1 := adv_gt (b := b) (n := n) (P := adv b n P)
  rw [nI_1]
  refine H (o + 1) (by omega) (by omega) s2 _ C (d + 1 + 1) _ R2 ⟨fun s3 P3 C3 R3 hP3 S3 M3 T3 => yes1 ?_, fun s3 f pl F3 S3 => no0 (q0 s3 f pl F3 (fun s0' s' C' W B d' v1 Q' R' _ h' => pr R' (fun t1 E1 => S3 s0' t1 C' (W ++ [21 + k]) B d' v1 Q' E1 (lst_p (pT3_br (by omega) (by omega))) h')))⟩
  refine c_tkS (c := 44) (by decide) R3 (fun hT3 s4 R4 => yes1 ?_) (fun hT3 s4 F4 => no0 (q0 s4 1 _ F4 (fun s0' s' C' W B d' v1 Q' R' _ h' => pr R' (fun t1 E1 => S3 s0' t1 C' (W ++ [21 + k]) B d' v1 Q' E1 (lst_p (pT3_br (by omega) (by omega))) (fun t2 D ρ E2 e2 g2 => g_comma hk2 E2 (RC_B R') g2 M3 (fun y => absurd y hT3) (fun _ => h'))))))
  have pr2 : ∀ {s0' s' : sT} {C' W : List Nat} {B d' : Nat} {v1 : Int32} {Q' : sT → Prop}, RC s0' s' b n wh P C' W o B (d' + 1) → (∀ t1, RC s0' t1 b n wh (adv b n P3) (C' ++ C3) (W ++ [23 + k]) (o + 1) B (d' + 1) → SWq v1 Q' t1) → SWq v1 Q' s' := fun {s0' s' C' W B d' v1 Q'} R' h' => pr R' (fun t1 E1 => S3 s0' t1 C' (W ++ [21 + k]) B d' v1 Q' E1 (lst_p (pT3_br (by omega) (by omega))) (fun t2 D ρ E2 e2 g2 => g_comma hk2 E2 (RC_B R') g2 M3 (fun _ t3 E3 => h' t3 (by rw [← e2]; exact E3)) (fun y => absurd hT3 y)))
  have hg3 := adv_gt (b := b) (n := n) (P := P3)
  refine H (o + 1) (by omega) (by omega) s4 _ (C ++ C3) (d + 1 + 1 + 1) _ R4 ⟨fun s5 P5 C5 R5 hP5 S5 M5 T5 => yes1 ?_, fun s5 f pl F5 S5 => no0 (q0 s5 f pl F5 (fun s0' s' C' W B d' v1 Q' R' _ h' => pr2 R' (fun t1 E1 => S5 s0' t1 (C' ++ C3) (W ++ [23 + k]) B d' v1 Q' E1 (lst_p (pT3_br (by omega) (by omega))) h')))⟩
  have k23 : 23 + k = 20 ∨ 23 + k = 23 ∨ 23 + k = 24 := by omega
  refine c_tkS (c := 41) (by decide) R5 (fun hT5 s6 R6 => yes1 ?_) (fun hT5 s6 F6 => no0 (q0 s6 1 _ F6 (fun s0' s' C' W B d' v1 Q' R' _ h' => pr2 R' (fun t1 E1 => S5 s0' t1 (C' ++ C3) (W ++ [23 + k]) B d' v1 Q' E1 (lst_p (pT3_br (by omega) (by omega))) (fun t2 D ρ E2 e2 g2 => g_stop k23 E2 (RC_B R') g2 M5 hT5 h')))))
  have hg5 := adv_gt (b := b) (n := n) (P := P5)
  have hc9 : trc (5 + k) = 9 + k := by
    have : k = 0 ∨ k = 1 := by omega
    rcases this with rfl | rfl <;> rfl
  refine c_put1 (v := 5 + k) R6 hc9 (fun s7 R7 => yes1 (q1 s7 (adv b n P5) (C3 ++ (C5 ++ [5 + k])) ?_ (by omega) ?_ trivial ?_))
  · rw [List.append_assoc, List.append_assoc] at R7
    obtain ⟨r1, r2, r3, r4, r5, r6, r7, r8, r9⟩ := R7
    exact ⟨r1, r2, r3, r4, r5, r6, r7, by omega, r9⟩
  · intro s0' s' C' W B d' v1 Q' R' h'
    refine pr2 R' (fun t1 E1 => S5 s0' t1 (C' ++ C3) (W ++ [23 + k]) B d' v1 Q' E1 (lst_p (pT3_br (by omega) (by omega))) (fun t2 D ρ E2 e2 g2 => g_close k23 E2 hT5 (RC_B R') g2 (fun t3 E3 => h' t3 ?_)))
    rw [e2] at E3
    have ec : (if 23 + k = 20 then [] else if 23 + k = 23 then [5] else [6]) = [5 + k] := by
      have : k = 0 ∨ k = 1 := by omega
      rcases this with rfl | rfl <;> rfl
    rw [ec] at E3
    simp only [List.append_assoc] at E3 ⊢
    exact E3
  · have T3' : typd wh (2 + hPa (o + 1) + 1) false C3 := typd_le T3 (by omega)
    refine typd_le (typd_2 T3' T5 (fun st => ?_)) (by unfold hPa; omega)
    have : k = 0 ∨ k = 1 := by omega
    rcases this with rfl | rfl <;> rfl
/-- a part of a part -/
theorem go_of {N k : Nat} {s0 : sT} {b : Nat → Nat} {n t : Nat} (H : goPa N s0 b n t 2) {o : Nat} (ho : o ≤ 6) (hN : 1 + 4 * (6 - o) ≤ N) {s : sT} {P : pT} {C : List Nat} {d : Nat} {Q : Int32 → sT → Prop} (R : CCx s0 s b n t 2 P C d) (hQ : rdQ false (hPa o) (fun P' Cp => simP b n 2 P P' o Cp) nxA (fun f pl => simX pT1 b n 2 P o f pl) s0 b n t 2 P C d Q) (hk : k < 2) (hT : tok b n P = tWd (wdK (10 + k))) : c6_opens (nI o) (fun y14 u15 => (y14 = 0 → Q (0 : Int32) u15) ∧ (¬ y14 = 0 → g6 N 5 0 (nI o + (1 : Int32)) 0 0 (fun y16 u17 => (y16 = 0 → Q (0 : Int32) u17) ∧ (¬ y16 = 0 → c6_put (nI (3 + k)) (fun y18 u19 => (y18 = 0 → Q (0 : Int32) u19) ∧ (¬ y18 = 0 → Q (1 : Int32) u19)) u17)) u15)) s := by
  obtain ⟨q1, q0⟩ := hQ
  refine c_opens ho R (tw_lt hT) (tw_stk hT) (fun ho6 s1 R1 => yes1 ?_) (fun ho6 s1 F1 => no0 (q0 s1 4 P.1 F1 (fun s0' s' C' W B d' v1 Q' R' _ h' => s_of hk R' hT (fun y => by omega) (fun _ => h'))))
  rw [nI_1]
  refine H (o + 1) (by omega) (by omega) s1 (adv b n P) C (d + 1) _ R1 ⟨fun s2 P2 C2 R2 hP2 S2 _ T2 => yes1 ?_, fun s2 f pl F2 S2 => no0 (q0 s2 f pl F2 (fun s0' s' C' W B d' v1 Q' R' _ h' => s_of hk R' hT (fun _ t1 E1 => S2 s0' t1 C' (W ++ [60 + k]) B d' v1 Q' E1 (fun _ _ => trivial) h') (fun y => by omega)))⟩
  have hg := adv_gt (b := b) (n := n) (P := P)
  have kk : k = 0 ∨ k = 1 := by omega
  refine c_put1 (v := 60 + k) R2 (by rcases kk with rfl | rfl <;> rfl) (fun s3 R3 => yes1 (q1 s3 P2 (C2 ++ [60 + k]) (by rw [List.append_assoc] at R3; exact R3) (by omega) ?_ trivial ?_))
  · intro s0' s' C' W B d' v1 Q' R' h'
    refine s_of hk R' hT (fun _ t1 E1 => S2 s0' t1 C' (W ++ [60 + k]) B d' v1 Q' E1 (fun t2 E2 => EE_60 hk (RC_B R') E2 (fun t3 E3 => h' t3 (by rw [List.append_assoc] at E3; exact E3)))) (fun y => by omega)
  · exact typd_le (typd_1 T2 (fun st => by rcases kk with rfl | rfl <;> rfl)) (by unfold hPa; omega)
/-- a word of a part -/
theorem go_word {k : Nat} {s0 : sT} {b : Nat → Nat} {n t wh : Nat} {o : Nat} {s : sT} {P : pT} {C : List Nat} {d : Nat} {Q : Int32 → sT → Prop} (R : CCx s0 s b n t wh P C d) (hQ : rdQ false (hPa o) (fun P' Cp => simP b n wh P P' o Cp) nxA (fun f pl => simX pT1 b n wh P o f pl) s0 b n t wh P C d Q) (hk : k < 10) (hT : tok b n P = tWd (wdK k)) (hw : whC wh (tok b n P) = k + 1) (ha : alw wh k = true) : c8_advance (fun u7 => c6_putWith (1 : Int32) (nI k) (fun y8 u9 => (y8 = 0 ∨ y8 = 1) ∧ (Q y8 u9)) u7) s := by
  obtain ⟨q1, q0⟩ := hQ
  have hg := adv_gt (b := b) (n := n) (P := P)
  have htr : trc (40 + k) = k * 16 + 1 := by
    unfold trc
    rw [if_neg (by omega), if_neg (by omega), if_neg (by omega), if_pos (by omega), Nat.add_sub_cancel_left]
  refine c_advW R hT (fun s1 R1 => c_put (c := 1) (v := 40 + k) (k := k) R1 htr (fun s2 R2 => ⟨Or.inr rfl, q1 s2 (adv b n P) [40 + k] R2 hg (fun s0' s' C' W B d' v1 Q' R' h' => s_fact R' hk hT hw ha (fun t1 E1 => h' t1 (RC_d E1 (Nat.le_refl _)))) trivial (typd_le (ty_part hk (al_part R.2.2.2.2.2.2.2.2.2 hk ha)) (by unfold hPa; omega))⟩))
