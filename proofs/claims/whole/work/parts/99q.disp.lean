-- statements of an office: by their first word
def swd (K : Nat) : List Nat := if K = 0 then [109, 111, 115, 116] else if K = 1 then [112, 101, 114, 115, 111, 110] else if K = 2 then [104, 97, 118, 101] else if K = 3 then [98, 97, 107, 101, 115] else if K = 4 then [99, 111, 115, 116, 115] else if K = 5 then [108, 105, 107, 101, 115] else [109, 105, 99, 101]
theorem swd_ne : ∀ K, K < 7 → ∀ K', K' < 7 → K ≠ K' → swd K ≠ swd K' := by decide
theorem sw_one {b : Nat → Nat} {n K K' : Nat} {P : pT} (h : tok b n P = tWd (swd K)) (h' : tok b n P = tWd (swd K')) (hK : K < 7) (hK' : K' < 7) : K' = K := by
  by_cases y : K' = K
  · exact y
  · exact absurd (Prod.mk.inj (h'.symm.trans h)).2 (swd_ne K' hK' K hK y)
def STN (j lo hi : Nat) (Q : sT → Prop) (s : sT) : Prop := c12_number (nI lo) (nI hi) (fun y u => ∀ v : sT, v = wI u 193 j y → SEMI Q v) s
def STK (K : Nat) (Q : sT → Prop) (x : Int32) (s : sT) : Prop := if K = 0 then STN 1 1 6 Q s else if K = 1 then c12_personTold x (SEMI Q) s else if K = 2 then c12_haveTold (SEMI Q) s else if K = 3 then STN 3 0 9 Q s else if K = 4 then c12_codesTold 0 x (SEMI Q) s else if K = 5 then c12_codesTold 1 x (SEMI Q) s else STN 4 0 100 Q s
theorem r_disp {s0 s : sT} {b : Nat → Nat} {n i : Nat} {P : pT} {D : dT} {Q : sT → Prop} (R : RO s0 s b n P i D) (h2 : rI s 162 2 = nI P.1) (hi : i < 60) (h1 : ∀ K, K < 7 → tok b n P = tWd (swd K) → ∀ s', RO s0 s' b n (adv b n P) i D → STK K Q (nI P.1) s') (h0 : (∀ K, K < 7 → tok b n P ≠ tWd (swd K)) → ∀ s', RFo s0 s' 1 P.1 → Q s') : c12_statementTold Q s := by
  refine e_c12_statementTold (fun x hx => ?_)
  rw [hx, h2]
  refine br_f (by rw [R.2.2.2.2.1, show (60 : Int32) = nI 60 from rfl, nI_eq (by omega) (by decide)]; omega) ?_
  refine r_takesO (t := 166) (l := [109, 111, 115, 116]) (by decide) R (fun q s1 R1 => yes1 (h1 0 (by decide) q s1 R1)) (fun n0 s1 R1 => no0 ?_)
  refine r_takesO (t := 167) (l := [112, 101, 114, 115, 111, 110]) (by decide) R1 (fun q s1 R1 => yes1 (h1 1 (by decide) q s1 R1)) (fun n1 s2 R2 => no0 ?_)
  refine r_takesO (t := 170) (l := [104, 97, 118, 101]) (by decide) R2 (fun q s1 R1 => yes1 (h1 2 (by decide) q s1 R1)) (fun n2 s3 R3 => no0 ?_)
  refine r_takesO (t := 172) (l := [98, 97, 107, 101, 115]) (by decide) R3 (fun q s1 R1 => yes1 (h1 3 (by decide) q s1 R1)) (fun n3 s4 R4 => no0 ?_)
  refine r_takesO (t := 173) (l := [99, 111, 115, 116, 115]) (by decide) R4 (fun q s1 R1 => yes1 (h1 4 (by decide) q s1 R1)) (fun n4 s5 R5 => no0 ?_)
  refine r_takesO (t := 174) (l := [108, 105, 107, 101, 115]) (by decide) R5 (fun q s1 R1 => yes1 (h1 5 (by decide) q s1 R1)) (fun n5 s6 R6 => no0 ?_)
  refine r_asksO (t := 175) (l := [109, 105, 99, 101]) (by decide) R6 (fun q s1 R1 => h1 6 (by decide) q s1 R1) (fun n6 s1 F X => r_numberBad (RX_n0 X) (fun u hu => SEMI_bad (RFo_w (RFo_of R6 F X) rfl (by omega) hu) (fun s' hh => h0 (fun K hK => ?_) s' hh)))
  have cs : K = 0 ∨ K = 1 ∨ K = 2 ∨ K = 3 ∨ K = 4 ∨ K = 5 ∨ K = 6 := by omega
  rcases cs with rfl | rfl | rfl | rfl | rfl | rfl | rfl
  · exact n0
  · exact n1
  · exact n2
  · exact n3
  · exact n4
  · exact n5
  · exact n6
-- what the reference does meanwhile
def stS (b : Nat → Nat) (n : Nat) (P : pT) (i : Nat) (D : dT) (P' : pT) (D' : dT) : Prop := ∀ (s0 s : sT) (Q : sT → Prop), RO s0 s b n P i D → rI s 162 2 = nI P.1 → (∀ s', RO s0 s' b n P' i D' → SEMI Q s') → c12_statementTold Q s
def stX (b : Nat → Nat) (n : Nat) (P : pT) (i : Nat) (D : dT) (f pl : Nat) : Prop := ∀ (s0 s : sT) (Q : sT → Prop), RO s0 s b n P i D → rI s 162 2 = nI P.1 → (∀ s', RFo s0 s' f pl → Q s') → c12_statementTold Q s
def stQ (s0 : sT) (b : Nat → Nat) (n : Nat) (P : pT) (i : Nat) (D : dT) (Q : Int32 → sT → Prop) : Prop := (∀ s' P' D', CO s0 s' b n P' D' → P.1 < P'.1 → stS b n P i D P' D' → Q 1 s') ∧ ∀ s' f pl, CFo s0 s' f pl → stX b n P i D f pl → Q 0 s'
theorem stS_of {K : Nat} {b : Nat → Nat} {n i : Nat} {P P' : pT} {D D' : dT} (hi : i < 60) (hK : K < 7) (hT : tok b n P = tWd (swd K)) (h : ∀ (s0 s : sT) (Q : sT → Prop), RO s0 s b n (adv b n P) i D → (∀ s', RO s0 s' b n P' i D' → SEMI Q s') → STK K Q (nI P.1) s) : stS b n P i D P' D' := fun s0 s Q R e2 hQ => r_disp R e2 hi (fun K' hK' hT' s1 R1 => by rw [sw_one hT hT' hK hK']; exact h s0 s1 Q R1 hQ) (fun q => absurd hT (q K hK))
theorem stX_of {K : Nat} {b : Nat → Nat} {n i f pl : Nat} {P : pT} {D : dT} (hi : i < 60) (hK : K < 7) (hT : tok b n P = tWd (swd K)) (h : ∀ (s0 s : sT) (Q : sT → Prop), RO s0 s b n (adv b n P) i D → (∀ s', RFo s0 s' f pl → Q s') → STK K Q (nI P.1) s) : stX b n P i D f pl := fun s0 s Q R e2 hQ => r_disp R e2 hi (fun K' hK' hT' s1 R1 => by rw [sw_one hT hT' hK hK']; exact h s0 s1 Q R1 hQ) (fun q => absurd hT (q K hK))
theorem stX_no {b : Nat → Nat} {n i : Nat} {P : pT} {D : dT} (hi : i < 60) (h : ∀ K, K < 7 → tok b n P ≠ tWd (swd K)) : stX b n P i D 1 P.1 := fun s0 s Q R e2 hQ => r_disp R e2 hi (fun K' hK' hT' => absurd hT' (h K' hK')) (fun _ s' hh => hQ s' hh)
-- the class
def CTN (j lo hi : Nat) (Q : Int32 → sT → Prop) (s : sT) : Prop := c4_numberBehind (nI lo) (nI hi) (fun y u => ∀ v : sT, v = wI u 7 j y → ((rI v 7 j) = (-1 : Int32) → Q (0 : Int32) v) ∧ (¬ (rI v 7 j) = (-1 : Int32) → Q (1 : Int32) v)) s
def CTF (j : Nat) (F : (Int32 → sT → Prop) → sT → Prop) (Q : Int32 → sT → Prop) (s : sT) : Prop := ∀ x : Int32, x = (rI s 7 j) → ∀ u : sT, u = wI s 7 j (1 : Int32) → c4_beginsOnce x (fun y u26 => (y = 0 → Q (0 : Int32) u26) ∧ (¬ y = 0 → F (fun y27 u28 => (y27 = 0 → Q (0 : Int32) u28) ∧ (¬ y27 = 0 → Q (1 : Int32) u28)) u26)) u
def CTK (K : Nat) (Q : Int32 → sT → Prop) (s : sT) : Prop := if K = 0 then CTN 1 1 6 Q s else if K = 1 then c4_addPerson (fun y u => (y = 0 ∨ y = 1) ∧ (Q y u)) s else if K = 2 then c4_addPieces (fun y u => (y = 0 ∨ y = 1) ∧ (Q y u)) s else if K = 3 then CTN 3 0 9 Q s else if K = 4 then CTF 5 (c6_readSum 12 (0 : Int32)) Q s else if K = 5 then CTF 6 (c6_readTest 15 (1 : Int32)) Q s else CTN 4 0 100 Q s
theorem CFo_of {X : Nat → Nat → Bool} {s0 s s' : sT} {f pl : Nat} (O : FO XCO s0 s) (F : Fr X s s') (hX : ∀ a j, X a j = true → XCO a j = true) (hf : 1 ≤ f ∧ f ≤ 5) (e1 : rI s' 4 4 = nI f) (e2 : rI s' 4 5 = nI pl) : CFo s0 s' f pl := ⟨FO_tr O (FO_mo (FO_of F) hX), e1, e2, hf⟩
theorem c_disp {s0 s : sT} {b : Nat → Nat} {n : Nat} {P : pT} {D : dT} {Q : Int32 → sT → Prop} (C : CO s0 s b n P D) (h1 : ∀ K, K < 7 → tok b n P = tWd (swd K) → CTK K Q s) (h0 : (∀ K, K < 7 → tok b n P ≠ tWd (swd K)) → ∀ s', CFo s0 s' 1 P.1 → Q 0 s') : c4_statement (0 : Int32) Q s := by
  obtain ⟨O, ⟨T, -⟩, S, -⟩ := id C
  refine e_c4_statement (br_t rfl ?_)
  refine c_wdB (t0 := 1000002) (l := [109, 111, 115, 116]) (by decide) T S (fun q => yes1 (h1 0 (by decide) q)) (fun n0 => no0 ?_)
  refine c_wdB (t0 := 1000003) (l := [98, 97, 107, 101, 115]) (by decide) T S (fun q => yes1 (h1 3 (by decide) q)) (fun n3 => no0 ?_)
  refine c_wdB (t0 := 1000004) (l := [109, 105, 99, 101]) (by decide) T S (fun q => yes1 (h1 6 (by decide) q)) (fun n6 => no0 ?_)
  refine c_wdB (t0 := 1000005) (l := [112, 101, 114, 115, 111, 110]) (by decide) T S (fun q => yes1 (h1 1 (by decide) q)) (fun n1 => no0 ?_)
  refine c_wdB (t0 := 1000009) (l := [104, 97, 118, 101]) (by decide) T S (fun q => yes1 (h1 2 (by decide) q)) (fun n2 => no0 ?_)
  refine c_wdB (t0 := 1000011) (l := [99, 111, 115, 116, 115]) (by decide) T S (fun q => yes1 (h1 4 (by decide) q)) (fun n4 => no0 ?_)
  refine c_wdB (t0 := 1000025) (l := [108, 105, 107, 101, 115]) (by decide) T S (fun q => yes1 (h1 5 (by decide) q)) (fun n5 => no0 ?_)
  refine c_fail (v := 1) S (fun s' F e1 e2 => ⟨Or.inl rfl, h0 (fun K hK => ?_) s' (CFo_of O F (fun a j q => xco_45 q) (by decide) e1 e2)⟩)
  have cs : K = 0 ∨ K = 1 ∨ K = 2 ∨ K = 3 ∨ K = 4 ∨ K = 5 ∨ K = 6 := by omega
  rcases cs with rfl | rfl | rfl | rfl | rfl | rfl | rfl
  · exact n0
  · exact n1
  · exact n2
  · exact n3
  · exact n4
  · exact n5
  · exact n6
-- a number
theorem CO_4 {s0 s s' : sT} {b : Nat → Nat} {n : Nat} {P P' : pT} {D : dT} (C : CO s0 s b n P D) (F : Fr X4 s s') (S : CS s' b n P') : CO s0 s' b n P' D := by
  obtain ⟨O, ⟨T, t1, t2⟩, -, Dc, Dv⟩ := C
  exact ⟨FO_tr O (FO_mo (FO_of F) fun a j q => xco_45 (x45_4 q)), ⟨TC_fr F (fun a j q => by rcases q with rfl | rfl <;> rfl) T, by rw [F.1 _ _ rfl]; exact t1, by rw [F.1 _ _ rfl]; exact t2⟩, S, DC_fr (FO_of (fr_mo F fun a j q => x45_4 q)) (fun a j q1 q2 => x45_d q1) Dc, Dv⟩
/-- something of the draft is written -/
theorem CO_w {s0 s u : sT} {b : Nat → Nat} {n : Nat} {P : pT} {D D' : dT} (C : CO s0 s b n P D) (F : FO (fun a _ => Nat.ble 7 a && Nat.ble a 16) s u) (hD : DC u D') (hV : dOK D') : CO s0 u b n P D' := by
  obtain ⟨O, ⟨⟨t1, t2, t3⟩, t4, t5⟩, ⟨c1, c2, c3, c4⟩, -, -⟩ := C
  refine ⟨FO_tr O (FO_mo F fun a j q => ?_), ⟨⟨t1, by rw [F.1 _ _ rfl]; exact t2, fun k hk => by rw [F.1 _ _ rfl]; exact t3 k hk⟩, by rw [F.1 _ _ rfl]; exact t4, by rw [F.1 _ _ rfl]; exact t5⟩, ⟨c1, by rw [F.1 _ _ rfl]; exact c2, fun q => by rw [F.1 4 1 rfl, F.1 4 3 rfl]; exact c3 q, fun q => by rw [F.1 4 1 rfl, F.1 4 3 rfl]; exact c4 q⟩, hD, hV⟩
  simp only [Bool.and_eq_true, Nat.ble_eq] at q
  exact xco_t (by omega)
theorem DC_m {s u : sT} {D : dT} {j v : Nat} (h : DC s D) (hj : j ≠ 2) (h5 : j < 5) (e : u = wI s 7 j (nI v)) : DC u (uN (dM D) j v, D.2) := by
  obtain ⟨h1, h2, h3, h4, h6, h7, h8⟩ := h
  have F : FO (fun a _ => Nat.beq a 7) s u := FO_of (by rw [e]; exact fr_wI fr_rf rfl)
  refine ⟨fun k hk => ?_, by rw [e, rI_wI, if_neg (by omega)]; exact h2, by rw [e, rI_wI, if_neg (by omega)]; exact h3, fun p hp => ?_, fun k hk => by rw [F.1 _ _ rfl]; exact h6 k hk, foC_fr F rfl (fun _ => rfl) h7, foC_fr F rfl (fun _ => rfl) h8⟩
  · show rI u 7 k = nI (uN (dM D) j v k)
    rw [e, rI_wI]
    by_cases y : k = j
    · rw [if_pos ⟨rfl, y⟩, y, uN_eq]
    · rw [if_neg (fun z => y z.2), uN_ne y]
      exact h1 k hk
  · have hp : p < uN (dM D) j v 2 := hp
    rw [uN_ne (fun y => hj y.symm)] at hp
    rw [F.1 8 _ rfl, F.1 9 _ rfl, F.1 10 _ rfl]
    exact h4 p hp
theorem c_num {j lo hi : Nat} {s0 s : sT} {b : Nat → Nat} {n : Nat} {P : pT} {D : dT} {l : List Nat} {Q : Int32 → sT → Prop} (hj : j = 1 ∧ lo = 1 ∧ hi = 6 ∨ j = 3 ∧ lo = 0 ∧ hi = 9 ∨ j = 4 ∧ lo = 0 ∧ hi = 100) (C : CO s0 s b n P D) (hT : tok b n P = tWd l) (h1 : ∀ v s', nOK (tok b n (adv b n P)) lo hi v → CO s0 s' b n (adv b n (adv b n P)) (uN (dM D) j v, D.2) → Q 1 s') (h0 : ∀ f pl s', nNo (tok b n (adv b n P)) (adv b n P).1 lo hi f pl → CFo s0 s' f pl → Q 0 s') : CTN j lo hi Q s := by
  refine e_c4_numberBehind (w_adv C.2.1.1 C.2.2.1 (tw_lt hT) (tw_stk hT) (fun s1 F1 S1 => ?_))
  have C1 := CO_4 C F1 S1
  refine c_takeNum (by omega) (by omega) C1.2.1.1 S1 (fun v hv s2 F2 S2 u hu => br_f ?_ ?_) (fun f pl hn s2 F2 e1 e2 u hu => br_t ?_ ?_)
  · obtain ⟨l', -, -, -, -, -, -⟩ := id hv
    rw [hu, rI_wI, if_pos ⟨rfl, rfl⟩]
    obtain ⟨l', -, -, -, -, q, rfl⟩ := hv
    exact nI_nm (by omega)
  · have C2 := CO_4 C1 F2 S2
    refine h1 v u hv (CO_w C2 (FO_of (by rw [hu]; exact fr_wI fr_rf rfl)) (DC_m C2.2.2.2.1 (by omega) (by omega) hu) ?_)
    obtain ⟨l', -, -, v1, v2, -, rfl⟩ := hv
    obtain ⟨d1, d2, d3, d4, d5, d6, d7, d8, d9, d10⟩ := C2.2.2.2.2
    have g : ∀ k, k ≠ j → uN (dM D) j (nmV l' 0) k = dM D k := fun k q => uN_ne q
    rcases hj with ⟨rfl, rfl, rfl⟩ | ⟨rfl, rfl, rfl⟩ | ⟨rfl, rfl, rfl⟩
    · exact ⟨d1, ⟨v1, v2⟩, d3, d4, d5, d6, d7, d8, d9, d10⟩
    · exact ⟨d1, d2, d3, v2, d5, d6, d7, d8, d9, d10⟩
    · exact ⟨d1, d2, d3, d4, v2, d6, d7, d8, d9, d10⟩
  · rw [hu, rI_wI, if_pos ⟨rfl, rfl⟩]
  · refine h0 f pl u hn ⟨FO_tr C1.1 (FO_tr (FO_mo (FO_of F2) fun a j q => xco_45 q) (FO_of (by rw [hu]; exact fr_wI fr_rf (xco_t (by omega))))), ?_, ?_, nNo_f hn⟩
    · rw [hu, rI_wI, if_neg (by omega)]; exact e1
    · rw [hu, rI_wI, if_neg (by omega)]; exact e2
/-- the reference's draft: a number -/
theorem RO_m {s0 s u : sT} {b : Nat → Nat} {n i j v : Nat} {P : pT} {D : dT} (R : RO s0 s b n P i D) (hj : j ≠ 2) (h5 : j < 5) (e : u = wI s 193 j (nI v)) : RO s0 u b n P i (uN (dM D) j v, D.2) := by
  obtain ⟨r1, r2, r3, r4, r5, cd, r6, h1, h2, h3, h4, h6, h7⟩ := R
  have F : Fr (fun a _ => Nat.beq a 193) s u := by rw [e]; exact fr_wI fr_rf rfl
  have FX : Fr XRO s u := by rw [e]; exact fr_wI fr_rf (xro_t (by omega))
  refine ⟨fr_tr r1 FX, ⟨TR_fr F rfl (fun _ => rfl) r2.1, by rw [F.1 _ _ rfl]; exact r2.2⟩, RL_fr F rfl rfl rfl r3, IC_fr FX oxr_C r4, by rw [F.1 _ _ rfl]; exact r5, cd, r6, fun k hk => ?_, fun p hp => ?_, fun k hk => by rw [F.1 _ _ rfl]; exact h3 k hk, foR_fr F (by decide) rfl rfl (fun _ _ => rfl) h4, foR_fr F (by decide) rfl rfl (fun _ _ => rfl) h6, by rw [F.1 _ _ rfl]; exact h7⟩
  · show rI u 193 k = nI (uN (dM D) j v k)
    rw [e, rI_wI]
    by_cases y : k = j
    · rw [if_pos ⟨rfl, y⟩, y, uN_eq]
    · rw [if_neg (fun z => y z.2), uN_ne y]
      exact h1 k hk
  · have hp : p < uN (dM D) j v 2 := hp
    rw [uN_ne (fun y => hj y.symm)] at hp
    rw [F.2.1 194 _ rfl, F.1 195 _ rfl, F.1 195 _ rfl]
    exact h2 p hp
theorem r_numG {j lo hi v : Nat} {s0 s : sT} {b : Nat → Nat} {n i : Nat} {P : pT} {D : dT} {Q : sT → Prop} (hj : j ≠ 2) (h5 : j < 5) (hl : lo < 10000) (hh : hi < 10000) (R : RO s0 s b n P i D) (hk : nOK (tok b n P) lo hi v) (h : ∀ s', RO s0 s' b n (adv b n P) i (uN (dM D) j v, D.2) → SEMI Q s') : STN j lo hi Q s :=
  r_numOK (by omega) (by omega) R.2.1.1 R.2.2.1 hk (fun s' F L _ u hu => h u (RO_m (RO_a R F L) hj h5 hu))
theorem r_numB {j lo hi f pl : Nat} {s0 s : sT} {b : Nat → Nat} {n i : Nat} {P : pT} {D : dT} {Q : sT → Prop} (h5 : j < 5) (hl : lo < 10000) (hh : hi < 10000) (R : RO s0 s b n P i D) (hk : nNo (tok b n P) P.1 lo hi f pl) (h : ∀ s', RFo s0 s' f pl → Q s') : STN j lo hi Q s :=
  r_numNo (by omega) (by omega) R.2.1.1 R.2.2.1 hk (fun y s' F X u hu => SEMI_bad (RFo_w (RFo_of R (fr_mo F fun a j q => xpr_l q) X) (xro_t (by omega)) (by omega) hu) h)
theorem adv2_lt {b : Nat → Nat} {n : Nat} {P : pT} : P.1 < (adv b n (adv b n P)).1 := Nat.lt_trans adv_gt adv_gt
theorem go_num {j lo hi K : Nat} {s0 s : sT} {b : Nat → Nat} {n i : Nat} {P : pT} {D : dT} {Q : Int32 → sT → Prop} (hj : j = 1 ∧ lo = 1 ∧ hi = 6 ∨ j = 3 ∧ lo = 0 ∧ hi = 9 ∨ j = 4 ∧ lo = 0 ∧ hi = 100) (hi60 : i < 60) (hK : K < 7) (hS : ∀ Q x s, STN j lo hi Q s → STK K Q x s) (C : CO s0 s b n P D) (hT : tok b n P = tWd (swd K)) (hQ : stQ s0 b n P i D Q) : CTN j lo hi Q s :=
  c_num hj C hT (fun v s' hv C' => hQ.1 s' _ _ C' adv2_lt (stS_of hi60 hK hT (fun t0 t Q' R h => hS _ _ _ (r_numG (by omega) (by omega) (by omega) (by omega) R hv h)))) (fun f pl s' hn F' => hQ.2 s' f pl F' (stX_of hi60 hK hT (fun t0 t Q' R h => hS _ _ _ (r_numB (by omega) (by omega) (by omega) R hn h))))
