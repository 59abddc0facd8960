-- all statements of an office
def OEN (Q : Int32 → sT → Prop) (u : sT) : Prop := ∀ u4 : sT, u4 = wI u 162 7 (rI u 162 5) → ∀ u5 : sT, u5 = wI u4 162 8 (rI u4 162 6) → ((rI u5 162 5) = 0 → c12_stands (fun u6 => Q (rI u6 162 48) u6) u5) ∧ (¬ (rI u5 162 5) = 0 → c12_refuses (1 : Int32) Q u5)
theorem o_bad {Q : Int32 → sT → Prop} {s0 s : sT} {f pl : Nat} (X : RFo s0 s f pl) (h : OEN Q s) : c12_office_117 Q s := e_c12_office_117 (br_f (RX_n0 X.2) h)
theorem o_fin {Q : Int32 → sT → Prop} {s0 s : sT} {b : Nat → Nat} {n i : Nat} {P : pT} {D : dT} (R : RO s0 s b n P i D) (hT : tok b n P = tFin) (h : ∀ s', RO s0 s' b n P i D → OEN Q s') : c12_office_117 Q s :=
  e_c12_office_117 (br_t R.2.2.1.1 (r_look R.2.1.1 R.2.2.1 (fun s1 F N => br_t ((lkv_fin R.2.1.1).2 hT) (h s1 (RO_2 R F N)))))
theorem o_go {Q : Int32 → sT → Prop} {s0 s : sT} {b : Nat → Nat} {n i : Nat} {P : pT} {D : dT} (R : RO s0 s b n P i D) (hT : tok b n P ≠ tFin) (h : ∀ s', RO s0 s' b n P i D → rI s' 162 2 = nI P.1 → c12_statementTold (c12_office_117 Q) s') : c12_office_117 Q s :=
  e_c12_office_117 (br_t R.2.2.1.1 (r_look R.2.1.1 R.2.2.1 (fun s1 F N => br_f (fun q => hT ((lkv_fin R.2.1.1).1 q)) (h s1 (RO_2 R F N) N.2.1))))
theorem o_60 {Q : sT → Prop} {s0 s : sT} {b : Nat → Nat} {n : Nat} {P : pT} {D : dT} (R : RO s0 s b n P 60 D) (e2 : rI s 162 2 = nI P.1) (h : ∀ s', RFo s0 s' 5 P.1 → Q s') : c12_statementTold Q s := by
  refine e_c12_statementTold (fun x hx => br_t (by rw [R.2.2.2.2.1]; rfl) ?_)
  rw [hx, e2]
  exact r_fail (f := 5) R.2.2.1.1 (by decide) (fun s1 F X => h s1 (RFo_of R (fr_mo F fun a j q => xpr_l q) X))
def lpS (b : Nat → Nat) (n : Nat) (P : pT) (i : Nat) (D : dT) (P' : pT) (k : Nat) (D' : dT) : Prop := ∀ (t0 t : sT) (Q : Int32 → sT → Prop), RO t0 t b n P i D → (∀ t', RO t0 t' b n P' k D' → OEN Q t') → c12_office_117 Q t
def lpX (b : Nat → Nat) (n : Nat) (P : pT) (i : Nat) (D : dT) (f pl : Nat) : Prop := ∀ (t0 t : sT) (Q : Int32 → sT → Prop), RO t0 t b n P i D → (∀ t', RFo t0 t' f pl → OEN Q t') → c12_office_117 Q t
def lpQ (s0 : sT) (b : Nat → Nat) (n : Nat) (P : pT) (i : Nat) (D : dT) (Q : Int32 → sT → Prop) : Prop := (∀ s' P' D' k, CO s0 s' b n P' D' → 1 ≤ k → k ≤ 60 → lpS b n P i D P' k D' → Q (nI k) s') ∧ ∀ s' f pl, CFo s0 s' f pl → lpX b n P i D f pl → Q (-1) s'
theorem go_loop {s0 : sT} {b : Nat → Nat} {n : Nat} {Q : Int32 → sT → Prop} : ∀ m i s P D, m + i = 60 → 1 ≤ i → CO s0 s b n P D → lpQ s0 b n P i D Q → c4_read_18 (nI i) (nI i) Q s := by
  intro m
  induction m with
  | zero =>
    intro i s P D e hi C hQ
    have hi60 : i = 60 := by omega
    subst hi60
    obtain ⟨k0, -⟩ := cs_kind C.2.2.1
    refine e_c4_read_18 (br_f (by decide) (br_c (fun q => br_f (by decide) (hQ.1 s P D 60 C (by decide) (Nat.le_refl _) (fun t0 t Q' R h => o_fin R (k0.1 q) h))) (fun q => br_t rfl (c_fail (v := 5) C.2.2.1 (fun s' F e1 e2 => ?_)))))
    exact hQ.2 s' 5 P.1 (CF_C C F (fun a j q => xco_45 q) (by decide) e1 e2) (fun t0 t Q' R h => o_go R (fun y => q (k0.2 y)) (fun t1 R1 e2 => o_60 R1 e2 (fun t2 X => o_bad X (h t2 X))))
  | succ m ih =>
    intro i s P D e hi C hQ
    obtain ⟨k0, -⟩ := cs_kind C.2.2.1
    refine e_c4_read_18 (br_f (nI_nlt (a := 60) (by omega) (by decide)) (br_c (fun q => br_f (nI_ne0 (by omega) (by omega)) (hQ.1 s P D i C hi (by omega) (fun t0 t Q' R h => o_fin R (k0.1 q) h))) (fun q => br_f (fun z => ?_) (br_f (nI_ne0 (by omega) (by omega)) ?_))))
    · rw [show (60 : Int32) = nI 60 from rfl, nI_eq (by omega) (by decide)] at z
      omega
    · have hne : tok b n P ≠ tFin := fun y => q (k0.2 y)
      rw [nI_1]
      refine go_stmt (s0 := s0) (i := i) (by omega) C ⟨fun s1 P1 D1 C1 hP S1 => yes1 ?_, fun s1 f pl F1 X1 => no0 (hQ.2 s1 f pl F1 (fun t0 t Q' R h => o_go R hne (fun t1 R1 e2 => X1 t0 t1 _ R1 e2 (fun t2 X => o_bad X (h t2 X)))))⟩
      refine c_takeSign (c := 59) (by decide) C1.2.1.1 C1.2.2.1 (fun hs s2 F2 S2 => yes1 ?_) (fun hs s2 F2 e1 e2 => no0 ?_)
      · refine ih (i + 1) s2 _ D1 (by omega) (by omega) (CO_4 C1 F2 S2) ⟨fun s3 P3 D3 k C3 k1 k2 S3 => hQ.1 s3 P3 D3 k C3 k1 k2 (fun t0 t Q' R h => ?_), fun s3 f pl F3 X3 => hQ.2 s3 f pl F3 (fun t0 t Q' R h => ?_)⟩
        · exact o_go R hne (fun t1 R1 e2 => S1 t0 t1 _ R1 e2 (fun t2 R2 => SEMI_go R2 (fun _ t3 R3 => S3 t0 t3 Q' R3 h) (fun z => absurd hs z)))
        · exact o_go R hne (fun t1 R1 e2 => S1 t0 t1 _ R1 e2 (fun t2 R2 => SEMI_go R2 (fun _ t3 R3 => X3 t0 t3 Q' R3 h) (fun z => absurd hs z)))
      · refine hQ.2 s2 1 P1.1 (CF_C C1 F2 (fun a j q => xco_45 q) (by decide) e1 e2) (fun t0 t Q' R h => ?_)
        exact o_go R hne (fun t1 R1 e2 => S1 t0 t1 _ R1 e2 (fun t2 R2 => SEMI_go R2 (fun z => absurd z hs) (fun _ t3 X => o_bad X (h t3 X))))
-- the first statement
def D_0 : dT := (fun k => if k = 1 then 4 else 0, fun _ => 0, fun _ => 0, fun _ => 0, fun _ => 0, fun _ => 0, (false, [40]), (false, [13]))
def D_1 (v : Nat) : dT := (uN (dM D_0) 0 v, D_0.2)
theorem dOK_1 {v : Nat} (h : 2 ≤ v ∧ v ≤ 24) : dOK (D_1 v) := by
  have e0 : dM (D_1 v) 0 = v := uN_eq (w := dM D_0) (k := 0) (v := v)
  refine ⟨by rw [e0]; exact h, (by decide : 1 ≤ 4 ∧ 4 ≤ 6), (by decide : 0 ≤ 6), (by decide : 0 ≤ 9), (by decide : 0 ≤ 100), fun p hp => absurd (show p < 0 from hp) (Nat.not_lt_zero _), fun k => (by decide : 0 ≤ 99), fun k _ => rfl, ⟨(by decide : 1 ≤ 1600), fun _ => rfl, rfl⟩, ⟨(by decide : 1 ≤ 1600), fun _ => rfl, rfl⟩⟩
def OFI (Q : Int32 → sT → Prop) : sT → Prop := fun u2 => ∀ u3 : sT, u3 = wI u2 162 48 (1 : Int32) → c12_office_117 Q u3
theorem RO_48 {s0 s u : sT} {b : Nat → Nat} {n i : Nat} {P : pT} {D : dT} (R : RO s0 s b n P i D) (e : u = wI s 162 48 (1 : Int32)) : RO s0 u b n P 1 D := by
  obtain ⟨r1, r2, r3, r4, r5, cd, r6, r7⟩ := R
  have F : Fr (fun a j => Nat.beq a 162 && Nat.beq j 48) s u := by rw [e]; exact fr_wI fr_rf rfl
  have FX : Fr XRO s u := by rw [e]; exact fr_wI fr_rf rfl
  exact ⟨fr_tr r1 FX, ⟨TR_fr F rfl (fun _ => rfl) r2.1, by rw [F.1 _ _ rfl]; exact r2.2⟩, RL_fr F rfl rfl rfl r3, IC_fr FX oxr_C r4, by rw [e, rI_wI, if_pos ⟨rfl, rfl⟩]; rfl, cd, r6, DR_fr F (fun a j q => Bool.eq_false_iff.2 (fun y => by simp only [Bool.and_eq_true, Nat.beq_eq] at y; omega)) r7⟩
theorem OFI_bad {Q : Int32 → sT → Prop} {s0 s : sT} {f pl : Nat} (X : RFo s0 s f pl) (h : ∀ s', RFo s0 s' f pl → OEN Q s') : OFI Q s := fun u hu => by
  have X' := RFo_w X rfl (by omega) hu
  exact o_bad X' (h u X')
def F2q (Q : Int32 → sT → Prop) : sT → Prop := fun u1 => c12_number (2 : Int32) (24 : Int32) (fun y2 u3 => ∀ u4 : sT, u4 = wI u3 193 0 y2 → c12_asksSign (59 : Int32) (OFI Q) u4) u1
theorem f_in {Q : Int32 → sT → Prop} {s : sT} (h : c12_asks 165 (F2q Q) s) : c12_finestTold (OFI Q) s := e_c12_finestTold h
theorem f_signBad {Q : Int32 → sT → Prop} {s0 s u : sT} {f pl : Nat} {v : Int32} (X : RFo s0 s f pl) (hu : u = wI s 193 0 v) (h : ∀ s', RFo s0 s' f pl → OEN Q s') : c12_asksSign (59 : Int32) (OFI Q) u := by
  have X' := RFo_w X rfl (by omega) hu
  exact r_signBad (RX_n0 X'.2) (OFI_bad X' h)
theorem f_sign {Q : Int32 → sT → Prop} {s0 s : sT} {b : Nat → Nat} {n i : Nat} {P : pT} {D : dT} (R : RO s0 s b n P i D) (h1 : tok b n P = tSg 59 → ∀ s', RO s0 s' b n (adv b n P) 1 D → c12_office_117 Q s') (h0 : tok b n P ≠ tSg 59 → ∀ s', RFo s0 s' 1 P.1 → OEN Q s') : c12_asksSign (59 : Int32) (OFI Q) s :=
  r_asksSign (c := 59) (by decide) (by decide) R.2.1.1 R.2.2.1 (fun q s' F L u hu => h1 q u (RO_48 (RO_a R F L) hu)) (fun q s' F X => OFI_bad (RFo_of R (fr_mo F fun a j q => xpr_l q) X) (h0 q))
def fiS (b : Nat → Nat) (n : Nat) (P : pT) (P' : pT) (k : Nat) (D' : dT) : Prop := ∀ (t0 t : sT) (i : Nat) (Q : Int32 → sT → Prop), RO t0 t b n P i D_0 → (∀ t', RO t0 t' b n P' k D' → OEN Q t') → c12_finestTold (OFI Q) t
def fiX (b : Nat → Nat) (n : Nat) (P : pT) (f pl : Nat) : Prop := ∀ (t0 t : sT) (i : Nat) (Q : Int32 → sT → Prop), RO t0 t b n P i D_0 → (∀ t', RFo t0 t' f pl → OEN Q t') → c12_finestTold (OFI Q) t
theorem foC_0 {s : sT} (t c : Nat) (h2 : rI s t 2 = 1) (h3 : rI s (t + 1) 0 = nI (trc c)) : foC s t [c] := ⟨h2, fun k hk => by
  have : k = 0 := by
    rw [List.length_singleton] at hk
    omega
  subst this
  exact h3⟩
theorem w_clr {Q : sT → Prop} {s0 : sT} (h : ∀ s', Fr XCO s0 s' → (∀ k, k < 25 → rI s' 11 k = 0) → (∀ j, rI s' 7 j = rI s0 7 j) → foC s' 12 [40] → foC s' 15 [13] → Q s') : ∀ m k s, m + k = 25 → Fr (fun a _ => Nat.beq a 11) s0 s → (∀ j, j < k → rI s 11 j = 0) → c7_clear_37 (nI k) Q s := by
  intro m
  induction m with
  | zero =>
    intro k s e F g
    have hk : k = 25 := by omega
    subst hk
    refine e_c7_clear_37 (br_f (by decide) (e_c2_clear (fun u1 h1 => e_c2_add ?_)))
    have q1 : rI u1 12 2 = nI 0 := by rw [h1, rI_wI, if_pos ⟨rfl, rfl⟩]; rfl
    rw [q1]
    refine br_t (by decide) ⟨vp_in_nI (n := 0) (N := 1600) (by decide) (by decide), fun u2 h2 u3 h3 => e_c2_clear (fun u4 h4 => e_c2_add ?_)⟩
    have q2 : rI u2 12 2 = nI 0 := by rw [h2, rI_wI, if_neg (by omega)]; exact q1
    rw [q2] at h3
    have q4 : rI u4 15 2 = nI 0 := by rw [h4, rI_wI, if_pos ⟨rfl, rfl⟩]; rfl
    rw [q4]
    refine br_t (by decide) ⟨vp_in_nI (n := 0) (N := 1600) (by decide) (by decide), fun u5 h5 u6 h6 => ?_⟩
    have q5 : rI u5 15 2 = nI 0 := by rw [h5, rI_wI, if_neg (by omega)]; exact q4
    rw [q5] at h6
    have F6 : Fr (fun a _ => Nat.beq a 12 || (Nat.beq a 13 || (Nat.beq a 15 || Nat.beq a 16))) s u6 := by rw [h6, h5, h4, h3, h2, h1]; exact fr_wI (fr_wI (fr_wI (fr_wI (fr_wI (fr_wI fr_rf rfl) rfl) rfl) rfl) rfl) rfl
    refine h u6 (fr_tr (fr_mo F fun a j q => ?_) (fr_mo F6 fun a j q => ?_)) (fun k hk => by rw [F6.1 _ _ rfl]; exact g k hk) (fun j => by rw [F6.1 _ _ rfl, F.1 _ _ rfl]) (foC_0 12 40 ?_ ?_) (foC_0 15 13 ?_ ?_)
    · simp only [Nat.beq_eq] at q
      exact xco_t (by omega)
    · simp only [Bool.or_eq_true, Nat.beq_eq] at q
      exact xco_t (by omega)
    · rw [h6, rI_wI, if_neg (by omega), h5, rI_wI, if_neg (by omega), h4, rI_wI, if_neg (by omega), h3, rI_wI, if_pos ⟨rfl, rfl⟩]; rfl
    · rw [h6, rI_wI, if_neg (by omega), h5, rI_wI, if_neg (by omega), h4, rI_wI, if_neg (by omega), h3, rI_wI, if_neg (by omega), h2, rI_wI, if_pos ⟨rfl, rfl⟩]; rfl
    · rw [h6, rI_wI, if_pos ⟨rfl, rfl⟩]; rfl
    · rw [h6, rI_wI, if_neg (by omega), h5, rI_wI, if_pos ⟨rfl, rfl⟩]; rfl
  | succ m ih =>
    intro k s e F g
    refine e_c7_clear_37 (br_t (nI_lt (b := 25) (by omega) (by decide)) ⟨vp_in_nI (by omega) (by decide), fun u hu => ?_⟩)
    rw [nI_clamp (by omega)] at hu
    rw [nI_1]
    refine ih (k + 1) u (by omega) (by rw [hu]; exact fr_wI F rfl) (fun j hj => ?_)
    rw [hu, rI_wI]
    by_cases y : j = k
    · rw [if_pos ⟨rfl, y⟩]
    · rw [if_neg (fun z => y z.2)]
      exact g j (by omega)
/-- the class reads the whole text -/
theorem c_readO {s : sT} {b : Nat → Nat} {n : Nat} {Q : Int32 → sT → Prop} (T : TC s b n) (h1 : ∀ s' P' D' k, CO s s' b n P' D' → 1 ≤ k → k ≤ 60 → fiS b n (skp b n 0, false) P' k D' → Q (nI k) s') (h0 : ∀ s' f pl, CFo s s' f pl → fiX b n (skp b n 0, false) f pl → Q (-1) s') : c4_read Q s := by
  refine e_c4_read (e_c7_clear (fun u1 g1 u2 g2 u3 g3 u4 g4 u5 g5 u6 g6 u7 g7 => ?_))
  have F7 : Fr XCO s u7 := by rw [g7, g6, g5, g4, g3, g2, g1]; exact fr_wI (fr_wI (fr_wI (fr_wI (fr_wI (fr_wI (fr_wI fr_rf rfl) rfl) rfl) rfl) rfl) rfl) rfl
  refine w_clr (fun u8 F8 z11 z7 z12 z15 => ?_) 25 0 u7 rfl fr_rf (fun j hj => absurd hj (Nat.not_lt_zero _))
  have O8 : FO XCO s u8 := FO_of (fr_tr F7 F8)
  have T8 : TC u8 b n := TC_fr (fr_tr F7 F8) (fun a j q => by rcases q with rfl | rfl <;> rfl) T
  refine w_begin T8 (fun s1 F1 S1 e4 e5 => ?_)
  have T1 := TC_fr F1 (fun a j q => by rcases q with rfl | rfl <;> rfl) T8
  have O1 : FO XCO s s1 := FO_tr O8 (FO_mo (FO_of F1) fun a j q => xco_45 q)
  have v7 : ∀ j, rI s1 7 j = if j = 6 then 0 else if j = 5 then 0 else if j = 4 then 0 else if j = 3 then 0 else if j = 2 then 0 else if j = 1 then 4 else if j = 0 then 0 else rI s 7 j := fun j => by
    rw [F1.1 _ _ rfl, z7, g7, rI_wI, g6, rI_wI, g5, rI_wI, g4, rI_wI, g3, rI_wI, g2, rI_wI, g1, rI_wI]
    simp only [true_and]
  have d1 : DC s1 D_0 := by
    refine ⟨fun j hj => ?_, by rw [v7]; rfl, by rw [v7]; rfl, fun p hp => absurd (show p < 0 from hp) (Nat.not_lt_zero _), fun k hk => by rw [F1.1 _ _ rfl, z11 k hk]; rfl, foC_fr (FO_of F1) rfl (fun _ => rfl) z12, foC_fr (FO_of F1) rfl (fun _ => rfl) z15⟩
    have cs : j = 0 ∨ j = 1 ∨ j = 2 ∨ j = 3 ∨ j = 4 := by omega
    rcases cs with rfl | rfl | rfl | rfl | rfl <;> rw [v7] <;> rfl
  generalize hP0 : ((skp b n 0, false) : pT) = P0 at *
  obtain ⟨k0, -⟩ := cs_kind S1
  have noF : tok b n P0 ≠ tWd [102, 105, 110, 101, 115, 116] → fiX b n P0 1 P0.1 := fun q t0 t i Q' R h => f_in (r_asksO (t := 165) (l := [102, 105, 110, 101, 115, 116]) (by decide) R (fun z => absurd z q) (fun _ t1 F X => r_numberBad (RX_n0 X) (fun u hu => f_signBad (RFo_of R F X) hu h)))
  refine e_c4_read_18 (br_f (by decide) (br_c (fun q => br_t rfl (c_fail (v := 1) S1 (fun s' F e1 e2 => h0 s' 1 P0.1 (CFo_of O1 F (fun a j q => xco_45 q) (by decide) e1 e2) (noF (by rw [k0.1 q]; exact fun y => absurd (Prod.mk.inj y).1 (by decide)))))) (fun q => br_f (by decide) (br_t rfl (e_c4_statement (br_f (by decide) ?_))))))
  refine c_wdB (t0 := 1000001) (l := [102, 105, 110, 101, 115, 116]) (by decide) T1 S1 (fun hT => yes1 (e_c4_numberBehind (w_adv T1 S1 (tw_lt hT) (tw_stk hT) (fun s2 F2 S2 => ?_)))) (fun hT => no0 (e_c4_failed (c_fail (v := 1) S1 (fun s2 F2 e1 e2 u hu => br_t (by rw [hu, rI_wI, if_pos ⟨rfl, rfl⟩]) (no0 (h0 u 1 P0.1 ?_ (noF hT)))))))
  · have T2 := TC_fr F2 (fun a j q => by rcases q with rfl | rfl <;> rfl) T1
    have O2 : FO XCO s s2 := FO_tr O1 (FO_mo (FO_of F2) fun a j q => xco_45 (x45_4 q))
    have A1 : ∀ (t0 t : sT) (i : Nat) (Q' : Int32 → sT → Prop), RO t0 t b n P0 i D_0 → (∀ t', RO t0 t' b n (adv b n P0) i D_0 → F2q Q' t') → c12_finestTold (OFI Q') t := fun t0 t i Q' R h => f_in (r_asksO (t := 165) (l := [102, 105, 110, 101, 115, 116]) (by decide) R (fun _ t1 R1 => h t1 R1) (fun z => absurd hT z))
    refine c_takeNum (lo := 2) (hi := 24) (by decide) (by decide) T2 S2 (fun v hv s3 F3 S3 u hu => br_f ?_ (yes1 ?_)) (fun f pl hn s3 F3 e1 e2 u hu => br_t (by rw [hu, rI_wI, if_pos ⟨rfl, rfl⟩]) (no0 (h0 u f pl ?_ (fun t0 t i Q' R h => A1 t0 t i Q' R (fun t' R' => r_numNo (lo := 2) (hi := 24) (by decide) (by decide) R'.2.1.1 R'.2.2.1 hn (fun y t2 F X w hw => f_signBad (RFo_of R' (fr_mo F fun a j q => xpr_l q) X) hw h))))))
    · rw [hu, rI_wI, if_pos ⟨rfl, rfl⟩]
      obtain ⟨l', -, -, -, v2, -, rfl⟩ := hv
      exact nI_nm (by omega)
    · have v24 : 2 ≤ v ∧ v ≤ 24 := by
        obtain ⟨l', -, -, v1, v2, -, rfl⟩ := id hv
        exact ⟨v1, v2⟩
      have F23 : Fr X4 s1 s3 := fr_tr F2 F3
      have d3 : DC s3 D_0 := DC_fr (FO_of (fr_mo F23 fun a j q => x45_4 q)) (fun a j q1 q2 => x45_d q1) d1
      have du : DC u (D_1 v) := DC_m d3 (by decide) (by decide) hu
      have Fu : FO (fun a _ => Nat.beq a 7) s3 u := FO_of (by rw [hu]; exact fr_wI fr_rf rfl)
      have T3 := TC_fr F3 (fun a j q => by rcases q with rfl | rfl <;> rfl) T2
      have Cu : CO s u b n (adv b n (adv b n P0)) (D_1 v) := by
        obtain ⟨t1, t2, t3⟩ := T3
        obtain ⟨c1, c2, c3, c4⟩ := S3
        refine ⟨FO_tr O2 (FO_tr (FO_mo (FO_of F3) fun a j q => xco_45 (x45_4 q)) (FO_of (by rw [hu]; exact fr_wI fr_rf rfl))), ⟨⟨t1, by rw [Fu.1 _ _ rfl]; exact t2, fun k hk => by rw [Fu.1 _ _ rfl]; exact t3 k hk⟩, by rw [Fu.1 _ _ rfl, F23.1 _ _ rfl]; exact e4, by rw [Fu.1 _ _ rfl, F23.1 _ _ rfl]; exact e5⟩, ⟨c1, by rw [Fu.1 _ _ rfl]; exact c2, fun q => by rw [Fu.1 4 1 rfl, Fu.1 4 3 rfl]; exact c3 q, fun q => by rw [Fu.1 4 1 rfl, Fu.1 4 3 rfl]; exact c4 q⟩, du, dOK_1 v24⟩
      have A2 : ∀ (t0 t : sT) (i : Nat) (Q' : Int32 → sT → Prop), RO t0 t b n P0 i D_0 → (∀ t', RO t0 t' b n (adv b n (adv b n P0)) i (D_1 v) → c12_asksSign (59 : Int32) (OFI Q') t') → c12_finestTold (OFI Q') t := fun t0 t i Q' R h => A1 t0 t i Q' R (fun t' R' => r_numOK (lo := 2) (hi := 24) (by decide) (by decide) R'.2.1.1 R'.2.2.1 hv (fun t2 F L _ w hw => h w (RO_m (RO_a R' F L) (by decide) (by decide) hw)))
      refine c_takeSign (c := 59) (by decide) Cu.2.1.1 Cu.2.2.1 (fun hs s5 F5 S5 => yes1 ?_) (fun hs s5 F5 e1 e2 => no0 ?_)
      · refine go_loop (s0 := s) 59 1 s5 _ (D_1 v) (by decide) (by decide) (CO_4 Cu F5 S5) ⟨fun s6 P6 D6 k C6 k1 k2 S6 => h1 s6 P6 D6 k C6 k1 k2 (fun t0 t i Q' R h => A2 t0 t i Q' R (fun t' R' => f_sign R' (fun _ t2 R2 => S6 t0 t2 Q' R2 h) (fun z => absurd hs z))), fun s6 f pl F6 X6 => h0 s6 f pl F6 (fun t0 t i Q' R h => A2 t0 t i Q' R (fun t' R' => f_sign R' (fun _ t2 R2 => X6 t0 t2 Q' R2 h) (fun z => absurd hs z)))⟩
      · exact h0 s5 1 _ (CF_C Cu F5 (fun a j q => xco_45 q) (by decide) e1 e2) (fun t0 t i Q' R h => A2 t0 t i Q' R (fun t' R' => f_sign R' (fun z => absurd z hs) (fun _ => h)))
    · refine ⟨FO_tr O2 (FO_tr (FO_mo (FO_of F3) fun a j q => xco_45 q) (FO_of (by rw [hu]; exact fr_wI fr_rf rfl))), ?_, ?_, nNo_f hn⟩
      · rw [hu, rI_wI, if_neg (by omega)]; exact e1
      · rw [hu, rI_wI, if_neg (by omega)]; exact e2
  · refine ⟨FO_tr O1 (FO_tr (FO_mo (FO_of F2) fun a j q => xco_45 q) (FO_of (by rw [hu]; exact fr_wI fr_rf rfl))), ?_, ?_, by decide⟩
    · rw [hu, rI_wI, if_neg (by omega)]; exact e1
    · rw [hu, rI_wI, if_neg (by omega)]; exact e2
