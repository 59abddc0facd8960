-- costs, likes: class and reference together
theorem dOK_se {D : dT} {w : Nat} {Cp : List Nat} (h : dOK D) (hw : w < 2) (hl : Cp.length ≤ 1600) (ht : tyL (alT w) Cp [] = some [decide (w = 1)]) : dOK (dSe D w (true, Cp)) := by
  obtain ⟨d1, d2, d3, d4, d5, d6, d7, d8, d9, d10⟩ := h
  have : w = 0 ∨ w = 1 := by omega
  rcases this with rfl | rfl
  · exact ⟨d1, d2, d3, d4, d5, d6, d7, d8, ⟨hl, fun y => (by cases y), ht⟩, d10⟩
  · exact ⟨d1, d2, d3, d4, d5, d6, d7, d8, d9, ⟨hl, fun y => (by cases y), ht⟩⟩
def tcw (w : Nat) : Nat := if w = 0 then 12 else 15
/-- the class begins to write a formula -/
theorem c_formIn {s0 s u s1 u3 u4 u5 : sT} {b : Nat → Nat} {n w : Nat} {P P' : pT} {D : dT} (hw : w < 2) (C : CO s0 s b n P D) (hu : u = wI s 7 (5 + w) (1 : Int32)) (F : Fr X4 u s1) (S : CS s1 b n P') (h3 : u3 = wO s1 (some (tcw w))) (h4 : u4 = wI u3 5 2 (nI w)) (h5 : u5 = wI u4 (tcw w) 2 (0 : Int32)) : CCx u5 u5 b n (tcw w) w P' [] P'.1 ∧ FO XCO s0 u5 ∧ (∀ a j, 7 ≤ a → ¬ (a = 7 ∧ j = 5 + w) → ¬ (a = tcw w ∧ j = 2) → rI u5 a j = rI s a j) ∧ rI u5 7 (5 + w) = (1 : Int32) := by
  have ht : tcw w = 12 ∨ tcw w = 15 := by
    unfold tcw
    split
    · exact Or.inl rfl
    · exact Or.inr rfl
  obtain ⟨O, ⟨⟨t1, t2, t3⟩, t4, t5⟩, -, -, -⟩ := C
  have k5 : ∀ a j, a ≠ 5 → a ≠ tcw w → rI u5 a j = rI s1 a j := fun a j q1 q2 => by rw [h5, rI_wI, if_neg (by omega), h4, rI_wI, if_neg (by omega), h3]; rfl
  have g : ∀ a j, X4 a j = false → a ≠ 7 → rI s1 a j = rI s a j := fun a j q1 q2 => by rw [F.1 _ _ q1, hu, rI_wI, if_neg (by omega)]
  refine ⟨⟨fr_rf, ⟨⟨t1, by rw [k5 _ _ (by omega) (by omega), g _ _ rfl (by decide)]; exact t2, fun k hk => by rw [k5 _ _ (by omega) (by omega), g _ _ rfl (by decide)]; exact t3 k hk⟩, by rw [k5 _ _ (by omega) (by omega), g _ _ rfl (by decide)]; exact t4, by rw [k5 _ _ (by omega) (by omega), g _ _ rfl (by decide)]; exact t5⟩, ?_, ?_, ?_, ?_, (fun k hk => absurd hk (Nat.not_lt_zero _)), ?_, ?_, by omega⟩, ?_, fun a j q1 q2 q3 => ?_, ?_⟩
  · obtain ⟨c1, c2, c3, c4⟩ := S
    exact ⟨c1, by rw [k5 _ _ (by omega) (by omega)]; exact c2, fun q => by rw [k5 4 1 (by omega) (by omega), k5 4 3 (by omega) (by omega)]; exact c3 q, fun q => by rw [k5 4 1 (by omega) (by omega), k5 4 3 (by omega) (by omega)]; exact c4 q⟩
  · rw [h5, h4, h3]; rfl
  · rw [h5, rI_wI, if_neg (by omega), h4, rI_wI, if_pos ⟨rfl, rfl⟩]
  · rw [h5, rI_wI, if_pos ⟨rfl, rfl⟩]; rfl
  · show 0 + P'.1 ≤ P'.1
    omega
  · omega
  · exact FO_wI (FO_wI (FO_tr (FO_tr (FO_tr O (FO_of (X := XCO) (by rw [hu]; exact fr_wI fr_rf (xco_t (by omega))))) (FO_mo (FO_of F) fun a j q => xco_45 (x45_4 q))) (by rw [h3]; exact FO_wO)) (xco_t (by omega)) h4) (xco_t (by omega)) h5
  · have nx : X4 a j = false := Bool.eq_false_iff.2 (fun y => by have := x45_4 y; rw [x45_d q1] at this; cases this)
    rw [h5, rI_wI, if_neg q3, h4, rI_wI, if_neg (by omega), h3]
    show rI s1 a j = rI s a j
    rw [F.1 _ _ nx, hu, rI_wI, if_neg q2]
  · rw [k5 _ _ (by omega) (by omega), F.1 _ _ rfl, hu, rI_wI, if_pos ⟨rfl, rfl⟩]
theorem xcc_f {t a j : Nat} (h : XCC t a j = true) : a = 4 ∨ (a = t ∧ j = 2) ∨ a = t + 1 := by
  unfold XCC at h
  simp only [Bool.or_eq_true, Bool.and_eq_true, Nat.beq_eq, Nat.ble_eq] at h
  omega
theorem xcc_n {t a j : Nat} (h : ¬ (a = 4 ∨ (a = t ∧ j = 2) ∨ a = t + 1)) : XCC t a j = false := Bool.eq_false_iff.2 (fun y => h (xcc_f y))
/-- .. and has written it -/
theorem c_formOut {s0 s u5 s' : sT} {b : Nat → Nat} {n w d : Nat} {P P' : pT} {D : dT} {Cp : List Nat} (hw : w < 2) (C : CO s0 s b n P D) (O : FO XCO s0 u5) (hk : ∀ a j, 7 ≤ a → ¬ (a = 7 ∧ j = 5 + w) → ¬ (a = tcw w ∧ j = 2) → rI u5 a j = rI s a j) (h7 : rI u5 7 (5 + w) = (1 : Int32)) (R : CCx u5 s' b n (tcw w) w P' ([] ++ Cp) d) (ht : tyL (alT w) Cp [] = some [decide (w = 1)]) : CO s0 s' b n P' (dSe D w (true, Cp)) := by
  have hq : tcw w = 12 ∨ tcw w = 15 := by
    unfold tcw
    split
    · exact Or.inl rfl
    · exact Or.inr rfl
  rw [List.nil_append] at R
  obtain ⟨F, r2, r3, -, -, r6, r7, r8, -, -⟩ := R
  obtain ⟨-, -, -, ⟨g1, g2, g3, g4, g5, g6, g7⟩, hV⟩ := C
  have hP := r3.1
  have hn := r2.1.1
  have g : ∀ a j, 7 ≤ a → ¬ (a = 7 ∧ j = 5 + w) → a ≠ tcw w → a ≠ tcw w + 1 → rI s' a j = rI s a j := fun a j q1 q2 q3 q4 => by rw [F.1 _ _ (xcc_n (by omega)), hk a j q1 q2 (by omega)]
  have e7 : rI s' 7 (5 + w) = (1 : Int32) := by rw [F.1 _ _ (xcc_n (by omega))]; exact h7
  refine ⟨FO_tr O (FO_mo (FO_of F) fun a j q => by have := xcc_f q; exact xco_t (by omega)), r2, r3, ?_, dOK_se hV hw (by omega) ht⟩
  have a1 : ∀ j, j < 5 → rI s' 7 j = nI (dM D j) := fun j hj => by rw [g _ _ (by omega) (by omega) (by omega) (by omega)]; exact g1 j hj
  have a4 : ∀ p, p < dM D 2 → rI s' 8 p = nI (dV D p * 27 ^ (6 - dN D p)) ∧ rI s' 9 p = nI (dTp D p) ∧ rI s' 10 p = nI (dBt D p) := fun p hp => by
    rw [g _ _ (by omega) (by omega) (by omega) (by omega), g _ _ (by omega) (by omega) (by omega) (by omega), g _ _ (by omega) (by omega) (by omega) (by omega)]
    exact g4 p hp
  have a5 : ∀ k, k < 25 → rI s' 11 k = nI (dTo D k) := fun k hk => by rw [g _ _ (by omega) (by omega) (by omega) (by omega)]; exact g5 k hk
  have : w = 0 ∨ w = 1 := by omega
  rcases this with rfl | rfl
  · exact ⟨a1, e7, by rw [g _ _ (by omega) (by omega) (by decide) (by decide)]; exact g3, a4, a5, ⟨r6, r7⟩, ⟨by rw [g _ _ (by omega) (by omega) (by decide) (by decide)]; exact g7.1, fun k hk => by rw [g _ _ (by omega) (by omega) (by decide) (by decide)]; exact g7.2 k hk⟩⟩
  · exact ⟨a1, by rw [g _ _ (by omega) (by omega) (by decide) (by decide)]; exact g2, e7, a4, a5, ⟨by rw [g _ _ (by omega) (by omega) (by decide) (by decide)]; exact g6.1, fun k hk => by rw [g _ _ (by omega) (by omega) (by decide) (by decide)]; exact g6.2 k hk⟩, ⟨r6, r7⟩⟩
theorem c_formBad {s0 u5 s' : sT} {w f pl : Nat} (O : FO XCO s0 u5) (F : CFx u5 s' (tcw w) f pl) : CFo s0 s' f pl := by
  have hq : tcw w = 12 ∨ tcw w = 15 := by
    unfold tcw
    split
    · exact Or.inl rfl
    · exact Or.inr rfl
  obtain ⟨F1, e1, e2, e3⟩ := F
  exact ⟨FO_tr O (FO_mo (FO_of F1) fun a j q => by have := xcc_f q; exact xco_t (by omega)), e1, e2, e3⟩
/-- the start of both: told before, or not -/
theorem go_form {s0 s : sT} {b : Nat → Nat} {n i w : Nat} {P : pT} {D : dT} {F : (Int32 → sT → Prop) → sT → Prop} {Q : Int32 → sT → Prop} (hi : i < 60) (hw : w < 2) (C : CO s0 s b n P D) (hT : tok b n P = tWd (swd (4 + w))) (hS : ∀ Q x s, c12_codesTold (nI w) x (SEMI Q) s → STK (4 + w) Q x s) (hQ : stQ s0 b n P i D Q) (h : (dFo D w).1 = false → ∀ u s1, u = wI s 7 (5 + w) (1 : Int32) → Fr X4 u s1 → CS s1 b n (adv b n P) → F (fun y27 u28 => (y27 = 0 → Q (0 : Int32) u28) ∧ (¬ y27 = 0 → Q (1 : Int32) u28)) s1) : CTF (5 + w) F Q s := by
  have DD := C.2.2.2.1
  have e7 : rI s 7 (5 + w) = bI (dFo D w).1 := by
    have : w = 0 ∨ w = 1 := by omega
    rcases this with rfl | rfl
    · exact DD.2.1
    · exact DD.2.2.1
  intro x hx u hu
  rw [e7] at hx
  have Fu : FO (fun a _ => Nat.beq a 7) s u := FO_of (by rw [hu]; exact fr_wI fr_rf rfl)
  obtain ⟨O, ⟨⟨t1, t2, t3⟩, t4, t5⟩, ⟨c1, c2, c3, c4⟩, -, -⟩ := C
  have Tu : TC u b n := ⟨t1, by rw [Fu.1 _ _ rfl]; exact t2, fun k hk => by rw [Fu.1 _ _ rfl]; exact t3 k hk⟩
  have Su : CS u b n P := ⟨c1, by rw [Fu.1 _ _ rfl]; exact c2, fun q => by rw [Fu.1 4 1 rfl, Fu.1 4 3 rfl]; exact c3 q, fun q => by rw [Fu.1 4 1 rfl, Fu.1 4 3 rfl]; exact c4 q⟩
  have Ou : FO XCO s0 u := FO_tr O (FO_of (by rw [hu]; exact fr_wI fr_rf (xco_t (by omega))))
  cases ht : (dFo D w).1 with
  | true =>
    rw [ht] at hx
    refine e_c4_beginsOnce (br_f (by rw [hx]; decide) (c_fail (v := 5) Su (fun s' F' e1 e2 => ⟨Or.inl rfl, no0 (hQ.2 s' 5 P.1 (CFo_of Ou F' (fun a j q => xco_45 q) (by decide) e1 e2) (stX_of hi (by omega) hT (fun t0 t Q' R h => hS _ _ _ (cod_twice hw R ht (fun t' X => SEMI_bad X h)))))⟩)))
  | false =>
    rw [ht] at hx
    exact e_c4_beginsOnce (br_t (by rw [hx]; rfl) (w_adv Tu Su (tw_lt hT) (tw_stk hT) (fun s1 F1 S1 => yes1 (h ht u s1 hu F1 S1))))
theorem go_costs {s0 s : sT} {b : Nat → Nat} {n i : Nat} {P : pT} {D : dT} {Q : Int32 → sT → Prop} (hi : i < 60) (C : CO s0 s b n P D) (hT : tok b n P = tWd (swd 4)) (hQ : stQ s0 b n P i D Q) : CTF 5 (c6_readSum 12 (0 : Int32)) Q s := by
  refine go_form (w := 0) hi (by decide) C hT (fun Q x s h => h) hQ (fun hno u s1 hu F1 S1 => e_c6_readSum (fun u3 h3 u4 h4 => e_c2_clear (fun u5 h5 => ?_)))
  obtain ⟨R5, O5, k5, e5⟩ := c_formIn (w := 0) (by decide) C hu F1 S1 h3 h4 h5
  have ga : P.1 < (adv b n P).1 := adv_gt
  refine (go_sums 64).1.2.2 0 (by decide) (by decide) u5 _ [] _ _ R5 ⟨fun s' P' Cp R' hP' S' M' T' => ⟨Or.inr rfl, yes1 (hQ.1 s' P' _ (c_formOut (w := 0) (by decide) C O5 k5 e5 R' (T' [] (by decide))) (by omega) (stS_of (K := 4) hi (by decide) hT (fun t0 t Q' R h => ?_)))⟩, fun s' f pl F' S' => ⟨Or.inl rfl, no0 (hQ.2 s' f pl (c_formBad (w := 0) O5 F') (stX_of (K := 4) hi (by decide) hT (fun t0 t Q' R h => ?_)))⟩⟩
  · refine cod_in (w := 0) (by decide) R hno (fun _ v Rv E => r_sums E (fun v2 E2 => S' v v2 [] [] 0 ((adv b n P).1 + 4) (nI 0) _ E2 lst_0 (fun v3 Dd ρ E3 e3 g3 => g_end (W := []) (Nat.le_refl _) E3 g3 M' (fun v4 E4 => cod_out (w := 0) (by decide) Rv (by rw [e3] at E4; exact E4) h)))) (fun z => absurd z (by decide))
  · exact cod_in (w := 0) (by decide) R hno (fun _ v Rv E => r_sums E (fun v2 E2 => S' v v2 [] [] 0 ((adv b n P).1 + 4) (nI 0) _ E2 lst_0 (fun v3 F3 X3 => LP_bad F3 X3 (fun v4 F4 X4 => cq_bad (RX_n0 X4.1) (SEMI_bad (RFo_of Rv F4 X4.1) h))))) (fun z => absurd z (by decide))
theorem go_likes {s0 s : sT} {b : Nat → Nat} {n i : Nat} {P : pT} {D : dT} {Q : Int32 → sT → Prop} (hi : i < 60) (C : CO s0 s b n P D) (hT : tok b n P = tWd (swd 5)) (hQ : stQ s0 b n P i D Q) : CTF 6 (c6_readTest 15 (1 : Int32)) Q s := by
  refine go_form (w := 1) hi (by decide) C hT (fun Q x s h => h) hQ (fun hno u s1 hu F1 S1 => e_c6_readTest (fun u3 h3 u4 h4 => e_c2_clear (fun u5 h5 => ?_)))
  obtain ⟨R5, O5, k5, e5⟩ := c_formIn (w := 1) (by decide) C hu F1 S1 h3 h4 h5
  have ga : P.1 < (adv b n P).1 := adv_gt
  refine (go_tests 64).2.2 0 (by decide) (by decide) u5 _ [] _ _ R5 ⟨fun s' P' Cp R' hP' S' M' T' => ⟨Or.inr rfl, yes1 (hQ.1 s' P' _ (c_formOut (w := 1) (by decide) C O5 k5 e5 R' (T' [] (by decide))) (by omega) (stS_of (K := 5) hi (by decide) hT (fun t0 t Q' R h => ?_)))⟩, fun s' f pl F' S' => ⟨Or.inl rfl, no0 (hQ.2 s' f pl (c_formBad (w := 1) O5 F') (stX_of (K := 5) hi (by decide) hT (fun t0 t Q' R h => ?_)))⟩⟩
  · refine cod_in (w := 1) (by decide) R hno (fun z => absurd z (by decide)) (fun _ v Rv E => e_c12_qTest (S' v v [] [] 0 ((adv b n P).1 + 4) _ E lst_0 (fun v3 Dd ρ E3 e3 g3 => t_end E3 g3 M'.1 M'.2 (fun v4 E4 => cod_out (w := 1) (by decide) Rv (by rw [e3] at E4; exact E4) h))))
  · exact cod_in (w := 1) (by decide) R hno (fun z => absurd z (by decide)) (fun _ v Rv E => e_c12_qTest (S' v v [] [] 0 ((adv b n P).1 + 4) _ E lst_0 (fun v3 F3 X3 => cq_bad (RX_n0 X3) (SEMI_bad (RFo_of Rv F3 X3) h))))
/-- a statement behind the first -/
theorem go_stmt {s0 s : sT} {b : Nat → Nat} {n i : Nat} {P : pT} {D : dT} {Q : Int32 → sT → Prop} (hi : i < 60) (C : CO s0 s b n P D) (hQ : stQ s0 b n P i D Q) : c4_statement (0 : Int32) Q s := by
  refine c_disp C (fun K hK hT => ?_) (fun hno s' F => hQ.2 s' 1 P.1 F (stX_no hi hno))
  have cs : K = 0 ∨ K = 1 ∨ K = 2 ∨ K = 3 ∨ K = 4 ∨ K = 5 ∨ K = 6 := by omega
  rcases cs with rfl | rfl | rfl | rfl | rfl | rfl | rfl
  · exact go_num (K := 0) (Or.inl ⟨rfl, rfl, rfl⟩) hi (by decide) (fun _ _ _ h => h) C hT hQ
  · exact go_person hi C hT hQ
  · exact go_have hi C hT hQ
  · exact go_num (K := 3) (Or.inr (Or.inl ⟨rfl, rfl, rfl⟩)) hi (by decide) (fun _ _ _ h => h) C hT hQ
  · exact go_costs hi C hT hQ
  · exact go_likes hi C hT hQ
  · exact go_num (K := 6) (Or.inr (Or.inr ⟨rfl, rfl, rfl⟩)) hi (by decide) (fun _ _ _ h => h) C hT hQ
