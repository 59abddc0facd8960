-- a person, pieces
theorem st_bad {K f pl : Nat} {s0 s' : sT} {b : Nat → Nat} {n i : Nat} {P : pT} {D : dT} {Q : Int32 → sT → Prop} (hi : i < 60) (hK : K < 7) (hT : tok b n P = tWd (swd K)) (hQ : stQ s0 b n P i D Q) (F : CFo s0 s' f pl) (h : ∀ (t0 t : sT) (Q' : sT → Prop), RO t0 t b n (adv b n P) i D → (∀ t', RFo t0 t' f pl → Q' t') → STK K Q' (nI P.1) t) : Q 0 s' := hQ.2 s' f pl F (stX_of hi hK hT h)
theorem CF_C {X : Nat → Nat → Bool} {s0 s s' : sT} {b : Nat → Nat} {n f pl : Nat} {P : pT} {D : dT} (C : CO s0 s b n P D) (F : Fr X s s') (hX : ∀ a j, X a j = true → XCO a j = true) (hf : 1 ≤ f ∧ f ≤ 5) (e1 : rI s' 4 4 = nI f) (e2 : rI s' 4 5 = nI pl) : CFo s0 s' f pl := CFo_of C.1 F hX hf e1 e2
theorem go_person {s0 s : sT} {b : Nat → Nat} {n i : Nat} {P : pT} {D : dT} {Q : Int32 → sT → Prop} (hi : i < 60) (C : CO s0 s b n P D) (hT : tok b n P = tWd (swd 1)) (hQ : stQ s0 b n P i D Q) : c4_addPerson (fun y u => (y = 0 ∨ y = 1) ∧ (Q y u)) s := by
  have hV := C.2.2.2.2
  have hm := hV.2.2.1
  have bad : ∀ {f pl : Nat} {s' : sT}, CFo s0 s' f pl → (∀ (t0 t : sT) (Q' : sT → Prop), RO t0 t b n (adv b n P) i D → (∀ t', RFo t0 t' f pl → Q' t') → c12_personTold (nI P.1) (SEMI Q') t) → ((0 : Int32) = 0 ∨ (0 : Int32) = 1) ∧ Q 0 s' := fun F h => ⟨Or.inl rfl, st_bad hi (by decide) hT hQ F h⟩
  refine e_c4_addPerson (fun x hx => ?_)
  rw [C.2.2.2.1.1 2 (by decide)] at hx
  rw [hx, show (6 : Int32) = nI 6 from rfl, nI_ltI (by omega) (by decide)]
  refine br_c (fun h6 => ?_) (fun h6 => c_fail (v := 5) C.2.2.1 (fun s' F e1 e2 => ⟨Or.inl rfl, bad (CF_C C F (fun a j q => xco_45 q) (by decide) e1 e2) (fun t0 t Q' R h => p_many R (by omega) (fun t' X => SEMI_bad X h))⟩))
  refine w_adv C.2.1.1 C.2.2.1 (tw_lt hT) (tw_stk hT) (fun s1 F1 S1 => ?_)
  have C1 := CO_4 C F1 S1
  refine c_seeNm C1.2.1.1 S1 (fun l hl => br_f ?_ ?_) (fun pl hn s2 F2 e1 e2 => br_t rfl (bad (CF_C C1 F2 (fun a j q => xco_45 q) (by decide) e1 e2) (fun t0 t Q' R h => p_noName hV R h6 hn (fun t' X => SEMI_bad X h))))
  · have := nmI_lt (nmOK_I hl)
    exact nI_nm (by omega)
  have hN := nmOK_I hl
  refine c_hasNm C1.2.2.2.1 hV hN (fun hd => yes1 (c_fail (v := 3) S1 (fun s2 F2 e1 e2 => ⟨Or.inl rfl, bad (CF_C C1 F2 (fun a j q => xco_45 q) (by decide) e1 e2) (fun t0 t Q' R h => p_dup hV R h6 hl hd (fun t' X => SEMI_bad X h))⟩))) (fun hno => no0 ?_)
  -- the reference behind the name
  have A1 : ∀ (t0 t : sT) (Q' : sT → Prop), RO t0 t b n (adv b n P) i D → (∀ t', RO t0 t' b n (adv b n (adv b n P)) i D → c12_asks 168 (PCq (lN (nmW l 0)) Q') t') → c12_personTold (nI P.1) Q' t := fun t0 t Q' R h => p_name hV R h6 hl hno h
  refine w_adv C1.2.1.1 S1 (tw_lt hl.1) (tw_stk hl.1) (fun s2 F2 S2 => ?_)
  have C2 := CO_4 C1 F2 S2
  generalize hP2 : adv b n (adv b n P) = P2 at *
  refine c_wdB (t0 := 1000007) (l := [100, 117, 101]) (by decide) C2.2.1.1 S2 (fun q => yes1 ?_) (fun q => no0 (c_fail (v := 1) S2 (fun s3 F3 e1 e2 => ⟨Or.inl rfl, bad (CF_C C2 F3 (fun a j q => xco_45 q) (by decide) e1 e2) (fun t0 t Q' R h => A1 t0 t _ R (fun t' R' => r_asksO (t := 168) (l := [100, 117, 101]) (by decide) R' (fun z => absurd z q) (fun _ t2 F X => pc_bad (RX_n0 X) (SEMI_bad (RFo_of R' F X) h))))⟩)))
  have A2 : ∀ (t0 t : sT) (Q' : sT → Prop), RO t0 t b n (adv b n P) i D → (∀ t', RO t0 t' b n (adv b n P2) i D → PCq (lN (nmW l 0)) Q' t') → c12_personTold (nI P.1) Q' t := fun t0 t Q' R h => A1 t0 t Q' R (fun t' R' => r_asksO (t := 168) (l := [100, 117, 101]) (by decide) R' (fun _ t2 R2 => h t2 R2) (fun z => absurd q z))
  refine e_c4_numberBehind (w_adv C2.2.1.1 S2 (tw_lt q) (tw_stk q) (fun s3 F3 S3 => ?_))
  have C3 := CO_4 C2 F3 S3
  refine c_takeNum (lo := 1) (hi := 24) (by decide) (by decide) C3.2.1.1 S3 (fun t ht s4 F4 S4 => ?_) (fun f pl hn s4 F4 e1 e2 => br_t rfl (bad (CF_C C3 F4 (fun a j q => xco_45 q) (nNo_f hn) e1 e2) (fun t0 t Q' R h => A2 t0 t _ R (fun t' R' => r_numNo (lo := 1) (hi := 24) (by decide) (by decide) R'.2.1.1 R'.2.2.1 hn (fun y t2 F X => pd_bad (RX_n0 X) (SEMI_bad (RFo_of R' (fr_mo F fun a j q => xpr_l q) X) h)))))) 
  have t24 : 1 ≤ t ∧ t ≤ 24 := by
    obtain ⟨l', -, -, v1, v2, -, rfl⟩ := id ht
    exact ⟨v1, v2⟩
  refine br_f (nI_nm (by omega)) ?_
  have C4 := CO_4 C3 F4 S4
  have A3 : ∀ (t0 u : sT) (Q' : sT → Prop), RO t0 u b n (adv b n P) i D → (∀ t', RO t0 t' b n (adv b n (adv b n P2)) i D → PDq (lN (nmW l 0)) Q' (nI t) t') → c12_personTold (nI P.1) Q' u := fun t0 u Q' R h => A2 t0 u Q' R (fun t' R' => r_numOK (lo := 1) (hi := 24) (by decide) (by decide) R'.2.1.1 R'.2.2.1 ht (fun t2 F L _ => h t2 (RO_a R' F L)))
  have g2 : P.1 < P2.1 := by rw [← hP2]; exact adv2_lt
  have g4 : P2.1 < (adv b n (adv b n P2)).1 := adv2_lt
  generalize hP4 : adv b n (adv b n P2) = P4 at *
  refine c_wdB (t0 := 1000008) (l := [111, 102]) (by decide) C4.2.1.1 S4 (fun q4 => yes1 ?_) (fun q4 => no0 (c_fail (v := 1) S4 (fun s5 F5 e1 e2 => ⟨Or.inl rfl, bad (CF_C C4 F5 (fun a j q => xco_45 q) (by decide) e1 e2) (fun t0 u Q' R h => A3 t0 u _ R (fun t' R' => r_asksO (t := 169) (l := [111, 102]) (by decide) R' (fun z => absurd z q4) (fun _ t2 F X => pe_bad (RX_n0 X) (SEMI_bad (RFo_of R' F X) h))))⟩)))
  have A4 : ∀ (t0 u : sT) (Q' : sT → Prop), RO t0 u b n (adv b n P) i D → (∀ t', RO t0 t' b n (adv b n P4) i D → PEq (lN (nmW l 0)) (nI t) Q' t') → c12_personTold (nI P.1) Q' u := fun t0 u Q' R h => A3 t0 u Q' R (fun t' R' => r_asksO (t := 169) (l := [111, 102]) (by decide) R' (fun _ t2 R2 => h t2 R2) (fun z => absurd q4 z))
  refine e_c4_numberBehind (w_adv C4.2.1.1 S4 (tw_lt q4) (tw_stk q4) (fun s5 F5 S5 => ?_))
  have C5 := CO_4 C4 F5 S5
  have hv6 : vp_in (nI (dM D 2)) 6 := vp_in_nI h6 (by decide)
  refine c_takeNum (lo := 1) (hi := 24) (by decide) (by decide) C5.2.1.1 S5 (fun c hc s6 F6 S6 => ⟨hv6, fun u1 h1 => ⟨hv6, fun u2 h2 => ⟨hv6, fun u3 h3 u4 h4 => ?_⟩⟩⟩) (fun f pl hn s6 F6 e1 e2 => ⟨hv6, fun u1 h1 => ⟨hv6, fun u2 h2 => ⟨hv6, fun u3 h3 u4 h4 => br_t rfl ?_⟩⟩⟩)
  · have c24 : 1 ≤ c ∧ c ≤ 24 := by
      obtain ⟨l', -, -, v1, v2, -, rfl⟩ := id hc
      exact ⟨v1, v2⟩
    have C6 := CO_4 C5 F6 S6
    have g6 : P4.1 < (adv b n (adv b n P4)).1 := adv2_lt
    rw [nI_clamp (by omega)] at h1 h2 h3
    rw [nI_1] at h4
    have C7 : CO s0 u4 b n (adv b n (adv b n P4)) (dPe D (nmW l 0) l.length t c) := CO_w C6 (FO_of (by rw [h4, h3, h2, h1]; exact fr_wI (fr_wI (fr_wI (fr_wI fr_rf rfl) rfl) rfl) rfl)) (DC_pe C6.2.2.2.1 h1 h2 h3 h4) (dOK_pe hV h6 hN t24 c24)
    refine br_f (nI_nm (by omega)) ⟨Or.inr rfl, hQ.1 u4 _ _ C7 (by omega) (stS_of (K := 1) hi (by decide) hT (fun t0 u Q' R h => A4 t0 u _ R (fun t' R' => r_numOK (lo := 1) (hi := 24) (by decide) (by decide) R'.2.1.1 R'.2.2.1 hc (fun t2 F L _ => p_last (RO_a R' F L) h6 h))))⟩
  · refine bad ⟨FO_tr C5.1 (FO_tr (FO_mo (FO_of F6) fun a j q => xco_45 q) (FO_of (by rw [h4, h3, h2, h1]; exact fr_wI (fr_wI (fr_wI (fr_wI fr_rf rfl) rfl) rfl) rfl))), ?_, ?_, nNo_f hn⟩ (fun t0 u Q' R h => A4 t0 u _ R (fun t' R' => r_numNo (lo := 1) (hi := 24) (by decide) (by decide) R'.2.1.1 R'.2.2.1 hn (fun y t2 F X => pf_bad (RX_n0 X) (SEMI_bad (RFo_of R' (fr_mo F fun a j q => xpr_l q) X) h))))
    · rw [h4, rI_wI, if_neg (by omega), h3, rI_wI, if_neg (by omega), h2, rI_wI, if_neg (by omega), h1, rI_wI, if_neg (by omega)]; exact e1
    · rw [h4, rI_wI, if_neg (by omega), h3, rI_wI, if_neg (by omega), h2, rI_wI, if_neg (by omega), h1, rI_wI, if_neg (by omega)]; exact e2
-- pieces
def HEq (y1 y4 : Int32) (Q : sT → Prop) : sT → Prop := fun u5 => ((rI u5 162 5) = 0 → vp_in y4 25 ∧ (∀ u8 : sT, u8 = wI u5 196 y4.toNatClampNeg y1 → Q u8)) ∧ (¬ (rI u5 162 5) = 0 → Q u5)
def HDq (y1 : Int32) (Q : sT → Prop) : Int32 → sT → Prop := fun y4 u5 => ((rI u5 162 5) = 0 → vp_in y4 25 ∧ ((0 < (rI u5 196 y4.toNatClampNeg) → c12_fail (2 : Int32) (rI u5 162 10) (HEq y1 y4 Q) u5) ∧ (¬ 0 < (rI u5 196 y4.toNatClampNeg) → HEq y1 y4 Q u5))) ∧ (¬ (rI u5 162 5) = 0 → HEq y1 y4 Q u5)
def HCq (y1 : Int32) (Q : sT → Prop) : sT → Prop := fun u3 => c12_number (1 : Int32) (rI u3 193 0) (HDq y1 Q) u3
def HBq (Q : sT → Prop) : Int32 → sT → Prop := fun y1 u2 => c12_asks 171 (HCq y1 Q) u2
theorem he_bad {y1 y4 : Int32} {Q : sT → Prop} {s : sT} (h5 : ¬ rI s 162 5 = 0) (h : Q s) : HEq y1 y4 Q s := br_f h5 h
theorem hd_bad {y1 y4 : Int32} {Q : sT → Prop} {s : sT} (h5 : ¬ rI s 162 5 = 0) (h : Q s) : HDq y1 Q y4 s := br_f h5 (he_bad h5 h)
theorem hc_bad {y1 : Int32} {Q : sT → Prop} {s : sT} (h5 : ¬ rI s 162 5 = 0) (h : Q s) : HCq y1 Q s := r_numberBad h5 (hd_bad h5 h)
theorem hb_bad {y1 : Int32} {Q : sT → Prop} {s : sT} (h5 : ¬ rI s 162 5 = 0) (h : Q s) : HBq Q y1 s := r_asksBad h5 (hc_bad h5 h)
theorem h_in {Q : sT → Prop} {s : sT} (h : c12_number (1 : Int32) (99 : Int32) (HBq Q) s) : c12_haveTold Q s := e_c12_haveTold h
/-- pieces of a size more -/
def dHv (D : dT) (k v : Nat) : dT := (dM D, dV D, dN D, dTp D, dBt D, uN (dTo D) k v, dC' D, dL D)
theorem dOK_hv {D : dT} {k v : Nat} (h : dOK D) (hk : 1 ≤ k ∧ k ≤ dM D 0) (hv : v ≤ 99) : dOK (dHv D k v) := by
  obtain ⟨d1, d2, d3, d4, d5, d6, d7, d8, d9, d10⟩ := h
  refine ⟨d1, d2, d3, d4, d5, d6, fun j => ?_, fun j hj => ?_, d9, d10⟩
  · show uN (dTo D) k v j ≤ 99
    by_cases y : j = k
    · rw [y, uN_eq]; exact hv
    · rw [uN_ne y]; exact d7 j
  · show uN (dTo D) k v j = 0
    have hj : j = 0 ∨ dM D 0 < j := hj
    rw [uN_ne (by omega)]
    exact d8 j hj
theorem DC_hv {s u : sT} {D : dT} {k v : Nat} (h : DC s D) (e : u = wI s 11 k (nI v)) : DC u (dHv D k v) := by
  obtain ⟨g1, g2, g3, g4, g5, g6, g7⟩ := h
  have F : FO (fun a _ => Nat.beq a 11) s u := FO_of (by rw [e]; exact fr_wI fr_rf rfl)
  refine ⟨fun j hj => by rw [F.1 _ _ rfl]; exact g1 j hj, by rw [F.1 _ _ rfl]; exact g2, by rw [F.1 _ _ rfl]; exact g3, fun p hp => ?_, fun j hj => ?_, foC_fr F rfl (fun _ => rfl) g6, foC_fr F rfl (fun _ => rfl) g7⟩
  · rw [F.1 8 _ rfl, F.1 9 _ rfl, F.1 10 _ rfl]
    exact g4 p hp
  · show rI u 11 j = nI (uN (dTo D) k v j)
    rw [e, rI_wI]
    by_cases y : j = k
    · rw [if_pos ⟨rfl, y⟩, y, uN_eq]
    · rw [if_neg (fun z => y z.2), uN_ne y]
      exact g5 j hj
theorem RO_hv {s0 s u : sT} {b : Nat → Nat} {n i k v : Nat} {P : pT} {D : dT} (R : RO s0 s b n P i D) (e : u = wI s 196 k (nI v)) : RO s0 u b n P i (dHv D k v) := by
  obtain ⟨r1, r2, r3, r4, r5, cd, r6, g1, g2, g3, g4, g5, g7⟩ := R
  have F : Fr (fun a _ => Nat.beq a 196) s u := by rw [e]; exact fr_wI fr_rf rfl
  have FX : Fr XRO s u := by rw [e]; exact fr_wI fr_rf (xro_t (by omega))
  refine ⟨fr_tr r1 FX, ⟨TR_fr F rfl (fun _ => rfl) r2.1, by rw [F.1 _ _ rfl]; exact r2.2⟩, RL_fr F rfl rfl rfl r3, IC_fr FX oxr_C r4, by rw [F.1 _ _ rfl]; exact r5, cd, r6, fun j hj => by rw [F.1 _ _ rfl]; exact g1 j hj, fun p hp => ?_, fun j hj => ?_, foR_fr F (by decide) rfl rfl (fun _ _ => rfl) g4, foR_fr F (by decide) rfl rfl (fun _ _ => rfl) g5, by rw [F.1 _ _ rfl]; exact g7⟩
  · rw [F.2.1 194 _ rfl, F.1 195 _ rfl, F.1 195 _ rfl]
    exact g2 p hp
  · show rI u 196 j = nI (uN (dTo D) k v j)
    rw [e, rI_wI]
    by_cases y : j = k
    · rw [if_pos ⟨rfl, y⟩, y, uN_eq]
    · rw [if_neg (fun z => y z.2), uN_ne y]
      exact g3 j hj
theorem h_last {s0 s : sT} {b : Nat → Nat} {n i k v : Nat} {P : pT} {D : dT} {Q : sT → Prop} (R : RO s0 s b n P i D) (hk : k < 25) (h0 : dTo D k = 0) (h : ∀ s', RO s0 s' b n P i (dHv D k v) → Q s') : HDq (nI v) Q (nI k) s := by
  obtain ⟨-, -, -, -, -, cd, -, -, -, d3, -⟩ := id R
  have hv : vp_in (nI k) 25 := vp_in_nI hk (by decide)
  have e : rI s 196 (nI k).toNatClampNeg = nI 0 := by rw [nI_clamp (by omega), d3 k hk, h0]
  refine br_t R.2.2.1.1 ⟨hv, br_f (by rw [e]; decide) (br_t R.2.2.1.1 ⟨hv, fun u hu => h u ?_⟩)⟩
  rw [nI_clamp (by omega)] at hu
  exact RO_hv R hu
theorem h_twice {s0 s : sT} {b : Nat → Nat} {n i k pl : Nat} {y1 : Int32} {P : pT} {D : dT} {Q : sT → Prop} (hV : dOK D) (R : RO s0 s b n P i D) (h10 : rI s 162 10 = nI pl) (hk : k < 25) (h0 : 0 < dTo D k) (h : ∀ s', RFo s0 s' 2 pl → Q s') : HDq y1 Q (nI k) s := by
  obtain ⟨-, -, -, -, -, cd, -, -, -, d3, -⟩ := id R
  have := hV.2.2.2.2.2.2.1 k
  refine br_t R.2.2.1.1 ⟨vp_in_nI hk (by decide), br_t ?_ ?_⟩
  · rw [nI_clamp (by omega), d3 k hk]
    exact nI_lt (a := 0) h0 (by omega)
  · rw [h10]
    exact r_fail (f := 2) R.2.2.1.1 (by decide) (fun s1 F X => he_bad (RX_n0 X) (h s1 (RFo_of R (fr_mo F fun a j q => xpr_l q) X)))
theorem go_have {s0 s : sT} {b : Nat → Nat} {n i : Nat} {P : pT} {D : dT} {Q : Int32 → sT → Prop} (hi : i < 60) (C : CO s0 s b n P D) (hT : tok b n P = tWd (swd 2)) (hQ : stQ s0 b n P i D Q) : c4_addPieces (fun y u => (y = 0 ∨ y = 1) ∧ (Q y u)) s := by
  have hV := C.2.2.2.2
  obtain ⟨⟨f1, f2⟩, -⟩ := id hV
  have hD := C.2.2.2.1
  have bad : ∀ {f pl : Nat} {s' : sT}, CFo s0 s' f pl → (∀ (t0 t : sT) (Q' : sT → Prop), RO t0 t b n (adv b n P) i D → (∀ t', RFo t0 t' f pl → Q' t') → c12_haveTold (SEMI Q') t) → ((0 : Int32) = 0 ∨ (0 : Int32) = 1) ∧ Q 0 s' := fun F h => ⟨Or.inl rfl, st_bad hi (by decide) hT hQ F h⟩
  refine e_c4_addPieces (e_c4_numberBehind (w_adv C.2.1.1 C.2.2.1 (tw_lt hT) (tw_stk hT) (fun s1 F1 S1 => ?_)))
  have C1 := CO_4 C F1 S1
  refine c_takeNum (lo := 1) (hi := 99) (by decide) (by decide) C1.2.1.1 S1 (fun v hv s2 F2 S2 => ?_) (fun f pl hn s2 F2 e1 e2 => br_t rfl (bad (CF_C C1 F2 (fun a j q => xco_45 q) (nNo_f hn) e1 e2) (fun t0 t Q' R h => h_in (r_numNo (lo := 1) (hi := 99) (by decide) (by decide) R.2.1.1 R.2.2.1 hn (fun y t2 F X => hb_bad (RX_n0 X) (SEMI_bad (RFo_of R (fr_mo F fun a j q => xpr_l q) X) h))))))
  have v99 : 1 ≤ v ∧ v ≤ 99 := by
    obtain ⟨l', -, -, v1, v2, -, rfl⟩ := id hv
    exact ⟨v1, v2⟩
  refine br_f (nI_nm (by omega)) ?_
  have C2 := CO_4 C1 F2 S2
  have A1 : ∀ (t0 u : sT) (Q' : sT → Prop), RO t0 u b n (adv b n P) i D → (∀ t', RO t0 t' b n (adv b n (adv b n P)) i D → HBq Q' (nI v) t') → c12_haveTold Q' u := fun t0 u Q' R h => h_in (r_numOK (lo := 1) (hi := 99) (by decide) (by decide) R.2.1.1 R.2.2.1 hv (fun t2 F L _ => h t2 (RO_a R F L)))
  have g2 : P.1 < (adv b n (adv b n P)).1 := adv2_lt
  generalize hP2 : adv b n (adv b n P) = P2 at *
  refine e_c8_takeWord (c_wdB (t0 := 1000010) (l := [98, 121]) (by decide) C2.2.1.1 S2 (fun q => yes1 ?_) (fun q => no0 (c_fail (v := 1) S2 (fun s3 F3 e1 e2 => ⟨Or.inl rfl, no0 (bad (CF_C C2 F3 (fun a j q => xco_45 q) (by decide) e1 e2) (fun t0 t Q' R h => A1 t0 t _ R (fun t' R' => r_asksO (t := 171) (l := [98, 121]) (by decide) R' (fun z => absurd z q) (fun _ t2 F X => hc_bad (RX_n0 X) (SEMI_bad (RFo_of R' F X) h)))))⟩))))
  have A2 : ∀ (t0 u : sT) (Q' : sT → Prop), RO t0 u b n (adv b n P) i D → (∀ t', RO t0 t' b n (adv b n P2) i D → c12_number (nI 1) (nI (dM D 0)) (HDq (nI v) Q') t') → c12_haveTold Q' u := fun t0 u Q' R h => A1 t0 u Q' R (fun t' R' => r_asksO (t := 171) (l := [98, 121]) (by decide) R' (fun _ t2 R2 => by
      have h2 := h t2 R2
      obtain ⟨-, -, -, -, -, cd, -, d1, -⟩ := id R2
      rw [← d1 0 (by decide)] at h2
      exact h2) (fun z => absurd q z))
  refine w_adv C2.2.1.1 S2 (tw_lt q) (tw_stk q) (fun s3 F3 S3 => yes1 ?_)
  have C3 := CO_4 C2 F3 S3
  have g3 : P2.1 < (adv b n P2).1 := adv_gt
  generalize hP3 : adv b n P2 = P3 at *
  refine c_seeNum C3.2.1.1 S3 (fun l hl hl4 hlt => ?_) (fun l hl hl4 s4 F4 S4 e1 e2 => br_t rfl (bad (CF_C C3 F4 (fun a j q => xco_45 q) (by decide) e1 e2) (fun t0 t Q' R h => A2 t0 t _ R (fun t' R' => r_numNo (lo := 1) (by omega) (by decide) R'.2.1.1 R'.2.2.1 (Or.inr (Or.inl ⟨l, hl, hl4, rfl, rfl⟩)) (fun y t2 F X => hd_bad (RX_n0 X) (SEMI_bad (RFo_of R' (fr_mo F fun a j q => xpr_l q) X) h)))))) (fun hl s4 F4 e1 e2 => br_t rfl (bad (CF_C C3 F4 (fun a j q => xco_45 q) (by decide) e1 e2) (fun t0 t Q' R h => A2 t0 t _ R (fun t' R' => r_numNo (lo := 1) (by omega) (by decide) R'.2.1.1 R'.2.2.1 (Or.inr (Or.inr ⟨hl, rfl, rfl⟩)) (fun y t2 F X => hd_bad (RX_n0 X) (SEMI_bad (RFo_of R' (fr_mo F fun a j q => xpr_l q) X) h))))))
  refine br_f (nI_nm (by omega)) ?_
  have D3 := C3.2.2.2.1
  rw [D3.1 0 (by decide), show (1 : Int32) = nI 1 from rfl, show (24 : Int32) = nI 24 from rfl, nI_ltI (by omega) (by decide), nI_ltI (by omega) (by omega), nI_ltI (by decide) (by omega)]
  have out : ¬ (1 ≤ nmV l 0 ∧ nmV l 0 ≤ dM D 0) → c8_fail (2 : Int32) (fun y9 u10 => (y9 = 0 ∨ y9 = 1) ∧ ((y9 = 0 ∨ y9 = 1) ∧ (Q y9 u10))) s3 := fun z => c_fail (v := 2) S3 (fun s4 F4 e1 e2 => ⟨Or.inl rfl, bad (CF_C C3 F4 (fun a j q => xco_45 q) (by decide) e1 e2) (fun t0 t Q' R h => A2 t0 t _ R (fun t' R' => r_numNo (lo := 1) (by omega) (by decide) R'.2.1.1 R'.2.2.1 (Or.inl ⟨l, hl, hl4, z, rfl, rfl⟩) (fun y t2 F X => hd_bad (RX_n0 X) (SEMI_bad (RFo_of R' (fr_mo F fun a j q => xpr_l q) X) h))))⟩)
  refine br_c (fun z => out (by omega)) (fun z1 => br_c (fun z => out (by omega)) (fun z2 => br_f (by omega) ⟨vp_in_nI (by omega) (by decide), ?_⟩))
  have hk : nOK (tok b n P3) 1 (dM D 0) (nmV l 0) := ⟨l, hl, hl4, by omega, by omega, hlt, rfl⟩
  rw [nI_clamp (by omega), D3.2.2.2.2.1 _ (by omega), show (0 : Int32) = nI 0 from rfl, nI_ltI (by decide) (by have := hV.2.2.2.2.2.2.1 (nmV l 0); omega)]
  refine br_c (fun z => c_fail (v := 2) S3 (fun s4 F4 e1 e2 => ⟨Or.inl rfl, bad (CF_C C3 F4 (fun a j q => xco_45 q) (by decide) e1 e2) (fun t0 t Q' R h => A2 t0 t _ R (fun t' R' => r_numOK (lo := 1) (by omega) (by decide) R'.2.1.1 R'.2.2.1 hk (fun t2 F L e10 => h_twice hV (RO_a R' F L) e10 (by omega) z (fun t3 X => SEMI_bad X h))))⟩)) (fun z => ⟨vp_in_nI (by omega) (by decide), fun u hu => ?_⟩)
  have C4 : CO s0 u b n P3 (dHv D (nmV l 0) v) := CO_w C3 (FO_of (by rw [hu]; exact fr_wI fr_rf rfl)) (DC_hv D3 hu) (dOK_hv hV ⟨by omega, by omega⟩ v99.2)
  refine w_adv C4.2.1.1 C4.2.2.1 (tok_num.1 hl).1 (tn_stk hl) (fun s5 F5 S5 => ⟨Or.inr rfl, hQ.1 s5 _ _ (CO_4 C4 F5 S5) ?_ (stS_of (K := 2) hi (by decide) hT (fun t0 u Q' R h => A2 t0 u _ R (fun t' R' => r_numOK (lo := 1) (by omega) (by decide) R'.2.1.1 R'.2.2.1 hk (fun t2 F L e10 => h_last (RO_a R' F L) (by omega) (by omega) h))))⟩)
  have : P3.1 < (adv b n P3).1 := adv_gt
  omega
