-- the call
theorem wV_0 {D : dT} (hV : dOK D) : wV (dM D 0) (dM D 2) (w_0 D) := by
  obtain ⟨⟨f1, f2⟩, -, -, -, -, -, d7, d8, -⟩ := hV
  refine ⟨fun n => ?_, fun n n1 n2 => ?_, fun p _ _ => ⟨if_neg (by omega), if_neg (by omega)⟩⟩
  · unfold w_0
    have := d7 n
    split <;> omega
  · unfold w_0
    rw [if_pos ⟨by omega, n2⟩]
    exact d8 n (Or.inr n1)
theorem op_office {s : sT} (I : Inv s) : two Inv c11_office c12_office s := by
  obtain ⟨fin, most, ppl, bk, mi, L, lc, cc, w, κ, I⟩ := I
  obtain ⟨⟨hIC, hIT, hIR, -, hIP, hIS⟩, io, ⟨-, -, -, -, -, n6, n7⟩, ⟨-, -, nw, -, -, hnw, -, -, -, e74, -⟩, -, -⟩ := id I
  obtain ⟨n, hn, t1, t2, t3⟩ := hIT
  have hb : ∀ k, k < 1600 → (rI s 3 k).toNatClampNeg < 256 ∧ rI s 3 k = nI ((rI s 3 k).toNatClampNeg) ∧ rI s 163 k = nI ((rI s 3 k).toNatClampNeg) := fun k hk => by
    obtain ⟨x, hx, g1, g2⟩ := t3 k hk
    have : (rI s 3 k).toNatClampNeg = x := by rw [g1, nI_clamp (by omega)]
    rw [this]
    exact ⟨hx, g1, g2⟩
  generalize hbb : (fun k => (rI s 3 k).toNatClampNeg) = b
  have hb' : ∀ k, k < 1600 → b k < 256 ∧ rI s 3 k = nI (b k) ∧ rI s 163 k = nI (b k) := by rw [← hbb]; exact hb
  have T : TC s b n := ⟨hn, t1, fun k hk => ⟨(hb' k hk).1, (hb' k hk).2.1⟩⟩
  have itn : ∀ t, (∀ k, rI t 3 k = rI s 3 k) → (∀ k, rI t 163 k = rI s 163 k) → rI t 2 1 = 0 → rI t 162 1 = 0 → IT t := fun t F1 F2 e1 e2 => by
    refine ⟨0, Nat.zero_le _, e1, e2, fun k hk => ?_⟩
    obtain ⟨x, hx, g1, g2⟩ := t3 k hk
    exact ⟨x, hx, by rw [F1]; exact g1, by rw [F2]; exact g2⟩
  refine e_c11_office (c_readO T (fun s1 P' D k C1 k1 k2 hS u3 h3 => e_c11_keepFault (fun u4 h4 u5 h5 => ?_)) (fun s1 f pl C1 hX u3 h3 => e_c11_keepFault (fun u4 h4 u5 h5 => ?_)))
  · -- an office
    obtain ⟨O1, ⟨⟨-, c2, -⟩, c4, c5⟩, -, DCs, hV⟩ := C1
    obtain ⟨⟨f1, f2⟩, ⟨m1, m2⟩, o3, o4, o5, o6, o7, o8, o9, o10⟩ := id hV
    have A5 : Fr XA0 s1 u5 := by rw [h5, h4, h3]; exact fr_wI (fr_wI (fr_wI fr_rf rfl) rfl) rfl
    have D5 : DC u5 D := DC_fr (FO_of A5) (fun a j q1 q2 => Bool.eq_false_iff.2 (fun y => by have := xa0_f y; omega)) DCs
    have e21 : rI u5 2 1 = 0 := by rw [h5, rI_wI, if_neg (by omega), h4, rI_wI, if_neg (by omega), h3, rI_wI, if_pos ⟨rfl, rfl⟩]
    have e16 : rI u5 0 16 = 0 := by rw [h5, rI_wI, if_neg (by omega), h4, rI_wI, if_pos ⟨rfl, rfl⟩, h3, rI_wI, if_neg (by omega)]; exact c4
    have e17 : rI u5 0 17 = (-1 : Int32) := by rw [h5, rI_wI, if_pos ⟨rfl, rfl⟩, h4, rI_wI, if_neg (by omega), h3, rI_wI, if_neg (by omega)]; exact c5
    refine br_f (nI_nm (by omega)) (w_takeD D5 hV (fun s2 F2 v21 v22 v25 v26 v29 => e_c1_forget (fun u6 h6 u7 h7 => ?_)))
    have A7 : Fr XA0 s2 u7 := by rw [h7, h6]; exact fr_wI (fr_wJ fr_rf rfl) rfl
    have K7 : IK u7 (dM D 0) (dM D 1) := Or.inl ⟨by rw [h7, rJ_wI, h6, rJ_wJ, if_pos ⟨rfl, rfl⟩]; decide, by rw [h7, rI_wI, if_pos ⟨rfl, rfl⟩]⟩
    -- what was written up to here
    have O7 : FO XAL s u7 := FO_tr (FO_mo O1 fun a j q => xal_t (Or.inr (Or.inl q))) (FO_tr (FO_mo (FO_of A5) fun a j q => xal_t (Or.inl q)) (FO_tr (FO_mo (FO_of F2) fun a j q => xal_t (Or.inr (Or.inr (Or.inr (Or.inr (Or.inr (Or.inr (Or.inr q)))))))) (FO_mo (FO_of A7) fun a j q => xal_t (Or.inl q))))
    have C7 : IC u7 := IC_fr (t := wO u7 s.2.2) (FO_fr O7) xal_IC hIC
    refine w_all54 (v := nI k) (Q := fun r1 s1 => c12_office (fun r2 s2 => r1 = r2 ∧ Inv s2) s1) hV (fun j hj => by rw [A7.1 _ _ rfl]; exact v21 j hj) (fun p hp => by rw [A7.1 _ _ rfl, A7.1 _ _ rfl]; exact (v22 p hp).2) C7.1 (fun s3 F3 K3 w3 => ?_) (dM D 2) 0 u7 (Nat.zero_add _) fr_rf K7 (fun q hq => absurd hq (Nat.not_lt_zero _))
    refine w_beginS (v := nI k) (Q := fun r1 s1 => c12_office (fun r2 s2 => r1 = r2 ∧ Inv s2) s1) hV (fun k hk => by rw [F3.1 _ _ rfl, A7.1 _ _ rfl]; exact v25 k hk) (fun s4 F4 S4 P4 e431 e432 e147 => ?_)
    have O4 : FO XAL s s4 := FO_tr O7 (FO_tr (FO_mo (FO_of F3) fun a j q => xal_t (Or.inr (Or.inr (Or.inr (Or.inr (Or.inr (Or.inr (Or.inl q)))))))) (FO_mo (FO_of F4) fun a j q => xal_t (Or.inr (Or.inr (Or.inr (Or.inr (Or.inr (Or.inl q))))))))
    -- the reference: its cells are as they were
    have low : ∀ a j, 157 ≤ a → rI s4 a j = rI s a j := fun a j q => by
      rw [F4.1 _ _ (Bool.eq_false_iff.2 (fun y => by have := xbg_f y; omega)), F3.1 _ _ (Bool.eq_false_iff.2 (fun y => by have := xoc_f y; omega)), h7, rI_wI, if_neg (by omega), h6, rI_wJ, F2.1 _ _ (Bool.eq_false_iff.2 (fun y => by have := xtk_f y; omega)), h5, rI_wI, if_neg (by omega), h4, rI_wI, if_neg (by omega), h3, rI_wI, if_neg (by omega), O1.1 _ _ (Bool.eq_false_iff.2 (fun y => by have := xco_f y; omega))]
    refine r_offIn hn (by rw [low _ _ (by decide)]; exact t2) (fun k hk => ⟨(hb' k hk).1, by rw [low _ _ (by decide)]; exact (hb' k hk).2.2⟩) (IC_fr (t := wO s4 s.2.2) (FO_fr O4) xal_IC hIC) (fun t i F5 e1 R0 => hS t t i _ R0 (fun t' R' g4 k4 g5 k5' => ?_))
    obtain ⟨R1, ⟨-, R2⟩, R3, -, R48, cd, hcd, hDR⟩ := R'
    have hP := R3.2.1
    have A9 : Fr (fun a j => Nat.beq a 162 && (Nat.beq j 7 || Nat.beq j 8)) t' g5 := by rw [k5', k4]; exact fr_wI (fr_wI fr_rf rfl) rfl
    have A9' : Fr XA0 t' g5 := by rw [k5', k4]; exact fr_wI (fr_wI fr_rf rfl) rfl
    have x7 : rI g5 162 7 = 0 := by rw [k5', rI_wI, if_neg (by omega), k4, rI_wI, if_pos ⟨rfl, rfl⟩]; exact R3.1
    have x8 : rI g5 162 8 = (-1 : Int32) := by rw [k5', rI_wI, if_pos ⟨rfl, rfl⟩, k4, rI_wI, if_neg (by omega)]; exact R2
    have D9 : DR g5 D cd := DR_fr A9 (fun a j q => Bool.eq_false_iff.2 (fun y => by simp only [Bool.and_eq_true, Bool.or_eq_true, Nat.beq_eq] at y; omega)) hDR
    refine br_t (by rw [A9.1 _ _ rfl]; exact R3.1) (r_stands hV (by omega) D9 (fun s9 F9 y49 y193 y197 y194 y195 y199 y200 y204 y73 y69 => ⟨?_, ?_⟩))
    · rw [F9.1 _ _ rfl, A9.1 _ _ rfl]
      exact R48.symm
    · -- all holds
      have O9 : FO XAL s s9 := FO_tr O4 (FO_tr (FO_mo (FO_of F5) fun a j q => xal_t (Or.inr (Or.inr (Or.inl q)))) (FO_tr (FO_mo (FO_of R1) fun a j q => xal_t (Or.inr (Or.inr (Or.inr (Or.inl q))))) (FO_tr (FO_mo (FO_of A9') fun a j q => xal_t (Or.inl q)) (FO_mo (FO_of F9) fun a j q => xal_t (Or.inr (Or.inr (Or.inr (Or.inr (Or.inl q)))))))))
      have FA := FO_fr O9
      -- the class's cells behind each of its steps
      have hi4 : ∀ a j, a < 157 → rI s9 a j = rI s4 a j := fun a j q => by
        rw [F9.1 _ _ (Bool.eq_false_iff.2 (fun y => by have := xsr_f y; omega)), A9.1 _ _ (Bool.eq_false_iff.2 (fun y => by simp only [Bool.and_eq_true, Nat.beq_eq] at y; omega)), R1.1 _ _ (Bool.eq_false_iff.2 (fun y => by have := xro_f y; omega)), F5.1 _ _ (Bool.eq_false_iff.2 (fun y => by have := xoi_f y; omega))]
      have hJ4 : ∀ a j, a < 157 → rJ s9 a j = rJ s4 a j := fun a j q => by
        rw [F9.2.1 _ _ (Bool.eq_false_iff.2 (fun y => by have := xsr_f y; omega)), A9.2.1 _ _ (Bool.eq_false_iff.2 (fun y => by simp only [Bool.and_eq_true, Nat.beq_eq] at y; omega)), R1.2.1 _ _ (Bool.eq_false_iff.2 (fun y => by have := xro_f y; omega)), F5.2.1 _ _ (Bool.eq_false_iff.2 (fun y => by have := xoi_f y; omega))]
      have hi3 : ∀ a j, a < 38 → rI s9 a j = rI s3 a j := fun a j q => by
        rw [hi4 a j (by omega), F4.1 _ _ (Bool.eq_false_iff.2 (fun y => by have := xbg_f y; omega))]
      have hJ3 : ∀ a j, a < 38 → rJ s9 a j = rJ s3 a j := fun a j q => by
        rw [hJ4 a j (by omega), F4.2.1 _ _ (Bool.eq_false_iff.2 (fun y => by have := xbg_f y; omega))]
      have hi2 : ∀ a j, a < 31 → rI s9 a j = rI s2 a j := fun a j q => by
        rw [hi3 a j (by omega), F3.1 _ _ (Bool.eq_false_iff.2 (fun y => by have := xoc_f y; omega)), h7, rI_wI, if_neg (by omega), h6, rI_wJ]
      have hi0 : ∀ a j, a < 3 → rI s9 a j = rI u5 a j := fun a j q => by
        rw [hi2 a j (by omega), F2.1 _ _ (Bool.eq_false_iff.2 (fun y => by have := xtk_f y; omega))]
      have F34 : Fr (fun a _ => Nat.ble 38 a) s3 (wO s9 s3.2.2) := ⟨fun a j q => hi3 a j (by rw [← Bool.not_eq_true, Nat.ble_eq] at q; omega), fun a j q => hJ3 a j (by rw [← Bool.not_eq_true, Nat.ble_eq] at q; omega), rfl⟩
      have F44 : Fr (fun a _ => Nat.ble 157 a) s4 (wO s9 s4.2.2) := ⟨fun a j q => hi4 a j (by rw [← Bool.not_eq_true, Nat.ble_eq] at q; omega), fun a j q => hJ4 a j (by rw [← Bool.not_eq_true, Nat.ble_eq] at q; omega), rfl⟩
      have wC9 : ∀ p, p < dM D 2 → wyC s9 p (dWr D p) := fun p hp => wyC_fr (t := wO s9 s3.2.2) F34 (fun _ _ _ => rfl) rfl rfl (w3 p hp)
      have m32 : ∀ p, ∀ x ∈ dWr D p, x < 2 ^ dM D 0 := fun p x hx => (wrs_mem hx).2
      have lC : likC s9 (dL D).2 := ⟨o10.1, by rw [hi2 _ _ (by decide)]; exact v29.1, fun k hk => by rw [hi2 _ _ (by decide)]; exact v29.2 k hk, o10.2.2⟩
      have cC : cosC s9 (dC' D).2 := ⟨o9.1, by rw [hi2 _ _ (by decide)]; exact v26.1, fun k hk => by rw [hi2 _ _ (by decide)]; exact v26.2 k hk, o9.2.2⟩
      have lR : likR s9 (dL D).2 := ⟨o10.1, o10.2.2, foR_out (w := 1) D9.2.2.2.2.1 o10 (by omega) (y197 1 (by decide)) y199⟩
      have cR : cosR s9 (dC' D).2 := foR_out (w := 0) D9.2.2.2.1 o9 (by omega) (y197 0 (by decide)) y199
      have g21 : ∀ j, j < 5 → rI s9 21 j = nI (dM D j) := fun j hj => by rw [hi2 _ _ (by decide)]; exact v21 j hj
      have OC9 : OCc s9 (dM D 0) (dM D 2) (dM D 3) (dWr D) (dL D).2 := ⟨f2, o3, o4, g21 0 (by decide), g21 2 (by decide), g21 3 (by decide), fun _ => lC, fun p hp => ⟨(wC9 p hp).1, m32 p⟩⟩
      have OR9 : OCr s9 (dM D 0) (dM D 2) (dM D 3) (dWr D) (dL D).2 := ⟨f2, o3, o4, y193 0 (by decide), y193 2 (by decide), y193 3 (by decide), lR, fun p hp => ⟨(y204 p hp).1, m32 p⟩⟩
      have pr : ∀ p, p < dM D 2 → perR s9 (dM D 0) p := fun p hp => by
        obtain ⟨⟨a1, a2, a3, a4, -⟩, b1, b2, b3, b4⟩ := o6 p hp
        obtain ⟨q1, q2, q3⟩ := v22 p hp
        obtain ⟨z1, z2, z3⟩ := D9.2.1 p hp
        have y13 := y195 (2 * p + 1) (by omega)
        rw [show 12 + (2 * p + 1) = 13 + 2 * p by omega] at y13
        refine ⟨⟨dV D p, dN D p, a1, a2, a3, a4, by rw [hi2 _ _ (by decide)]; exact q1, by rw [y194 p (by omega)]; exact z1⟩, ⟨dTp D p, dBt D p, b1, b2, b3, b4, by rw [hi2 _ _ (by decide)]; exact q2, by rw [y195 _ (by omega)]; exact z2, by rw [hi2 _ _ (by decide)]; exact q3, by rw [y13]; exact z3⟩, orK (dWr D p) (dWr D p).length, orK_lt (m32 p) _, (wC9 p hp).2, (y204 p hp).2⟩
      have io9 : IO s9 (dM D 0) (dM D 1) (dM D 2) (dM D 3) (dM D 4) (dWr D) (dL D).2 (dC' D).2 := ⟨Or.inl ⟨f1, y49, y193 1 (by decide)⟩, m1, m2, o5, g21 1 (by decide), g21 4 (by decide), y193 4 (by decide), OC9, OR9, fun _ => cC, cR, pr⟩
      have kz : κ_0.1 = 0 := rfl
      have in9 : IN s9 (dM D 0) (dM D 2) (w_0 D) κ_0 := ⟨StW_fr (s' := wO s9 s4.2.2) F44 (fun a j q1 q2 => Bool.eq_false_iff.2 (fun y => by rw [Nat.ble_eq] at y; omega)) S4, fun k hk => y200 k (by omega), wV_0 hV, KpC_fr (s' := wO s9 s4.2.2) F44 (fun a j q => Bool.eq_false_iff.2 (fun y => by rw [Nat.ble_eq] at y; omega)) P4, ⟨by rw [y200 37 (by decide)]; rfl, Nat.zero_le _, fun k hk => absurd hk (Nat.not_lt_zero _)⟩, by rw [O9.1 _ _ (xal_z _ _ rfl)]; exact n6, k148_fr (t := wO s9 s.2.2) FA (fun a j q => xal_z a j (by rcases q with rfl | rfl <;> rfl)) n7⟩
      have h43 : ∀ j, rI s9 43 j = rI s4 43 j := fun j => hi4 _ _ (by decide)
      have ih9 : IH s9 (dM D 0) (dM D 2) := ⟨0, 0, nw, by decide, by decide, hnw, by rw [h43]; exact e431, by rw [h43]; exact e432, y73, by rw [O9.1 _ _ (xal_z _ _ rfl)]; exact e74, fun k hk => absurd hk (Nat.not_lt_zero _)⟩
      have ix9 : IX s9 (dM D 2) := ⟨0, by decide, by rw [hi4 _ _ (by decide)]; exact e147, y69, fun r hr => absurd hr (Nat.not_lt_zero _)⟩
      have ik9 : IK s9 (dM D 0) (dM D 1) := IK_fr (t := wO s9 s3.2.2) F34 (fun a j q => by
        refine Bool.eq_false_iff.2 (fun y => ?_)
        rw [Nat.ble_eq] at y
        unfold fIK at q
        simp only [Bool.or_eq_true, Bool.and_eq_true, Nat.beq_eq] at q
        omega) K3
      have y1 : rI s9 162 1 = 0 := by rw [F9.1 _ _ rfl, A9.1 _ _ rfl, R1.1 _ _ rfl]; exact e1
      refine ⟨dM D 0, dM D 1, dM D 2, dM D 3, dM D 4, dWr D, (dL D).2, (dC' D).2, w_0 D, κ_0, ⟨IC_fr (t := wO s9 s.2.2) FA xal_IC hIC, itn s9 (fun k => FA.1 _ _ (xal_z _ _ rfl)) (fun k => FA.1 _ _ (xal_z _ _ rfl)) (by rw [hi0 _ _ (by decide)]; exact e21) y1, IR_fr (t := wO s9 s.2.2) FA xal_IR hIR, ⟨?_, ?_⟩, IP_fr (t := wO s9 s.2.2) FA xal_IP hIP, IS_fr (t := wO s9 s.2.2) FA xal_IS hIS⟩, io9, in9, ih9, ix9, ik9⟩
      · rw [hi0 _ _ (by decide), e16, F9.1 _ _ rfl, x7]
      · rw [hi0 _ _ (by decide), e17, F9.1 _ _ rfl, x8]
  · -- none
    obtain ⟨O1, c4, c5, hf⟩ := C1
    refine br_t rfl (refC (k := 1) (by decide) ?_)
    generalize hu6 : wI u5 1 1 (rI u5 1 1 + 1) = u6
    have A6 : Fr XO0 s1 u6 := by rw [← hu6, h5, h4, h3]; exact fr_wI (fr_wI (fr_wI (fr_wI fr_rf rfl) rfl) rfl) rfl
    have O6 : FO XOX s u6 := FO_tr (FO_mo O1 fun a j q => xox_t (Or.inr (Or.inl q))) (FO_mo (FO_of A6) fun a j q => xox_t (Or.inl q))
    have low : ∀ a j, 157 ≤ a → rI u6 a j = rI s a j := fun a j q => by
      rw [← hu6, rI_wI, if_neg (by omega), h5, rI_wI, if_neg (by omega), h4, rI_wI, if_neg (by omega), h3, rI_wI, if_neg (by omega), O1.1 _ _ (Bool.eq_false_iff.2 (fun y => by have := xco_f y; omega))]
    have C6 : IC u6 := by
      refine IC_fr (t := wO u6 s.2.2) (FO_fr O6) (off_OX (p := fun a _ => a = 36 ∨ (165 ≤ a ∧ a ≤ 192) ∨ (213 ≤ a ∧ a ≤ 236)) (fun a j q => ?_) (fun a j p q => by omega) (fun a j p q => by omega) (fun a j p q => by omega) (fun a j p q => by omega)) hIC
      unfold fIC at q
      simp only [Bool.or_eq_true, Bool.and_eq_true, Nat.beq_eq, Nat.ble_eq] at q
      exact q
    have e21 : rI u6 2 1 = 0 := by rw [← hu6, rI_wI, if_neg (by omega), h5, rI_wI, if_neg (by omega), h4, rI_wI, if_neg (by omega), h3, rI_wI, if_pos ⟨rfl, rfl⟩]
    have e16 : rI u6 0 16 = nI f := by rw [← hu6, rI_wI, if_neg (by omega), h5, rI_wI, if_neg (by omega), h4, rI_wI, if_pos ⟨rfl, rfl⟩, h3, rI_wI, if_neg (by omega)]; exact c4
    have e17 : rI u6 0 17 = nI pl := by rw [← hu6, rI_wI, if_neg (by omega), h5, rI_wI, if_pos ⟨rfl, rfl⟩, h4, rI_wI, if_neg (by omega), h3, rI_wI, if_neg (by omega)]; exact c5
    have b1 : ∀ k, rI u6 1 k = if k = 1 then rI s 1 1 + 1 else rI s 1 k := fun k => by
      have g : ∀ k, rI u5 1 k = rI s 1 k := fun k => by rw [h5, rI_wI, if_neg (by omega), h4, rI_wI, if_neg (by omega), h3, rI_wI, if_neg (by omega), O1.1 _ _ rfl]
      rw [← hu6, rI_wI, g, g]
      simp only [true_and]
    refine r_offIn hn (by rw [low _ _ (by decide)]; exact t2) (fun k hk => ⟨(hb' k hk).1, by rw [low _ _ (by decide)]; exact (hb' k hk).2.2⟩) C6 (fun t i F5 e1 R0 => hX t t i _ R0 (fun t' R' g4 k4 g5 k5' => br_f ?_ (refR (k := 1) (by decide) ⟨rfl, ?_⟩)))
    · rw [k5', rI_wI, if_neg (by omega), k4, rI_wI, if_neg (by omega)]
      exact RX_n0 R'.2
    · obtain ⟨R1, X1, X2, X3, X4⟩ := R'
      generalize hg6 : wI g5 164 1 (rI g5 164 1 + 1) = g6
      have A9 : Fr XO0 t' g6 := by rw [← hg6, k5', k4]; exact fr_wI (fr_wI (fr_wI fr_rf rfl) rfl) rfl
      have O9 : FO XOX s g6 := FO_tr O6 (FO_tr (FO_mo (FO_of F5) fun a j q => xox_t (Or.inr (Or.inr (Or.inl q)))) (FO_tr (FO_mo (FO_of R1) fun a j q => xox_t (Or.inr (Or.inr (Or.inr q)))) (FO_mo (FO_of A9) fun a j q => xox_t (Or.inl q))))
      have hi6 : ∀ a j, a < 157 → rI g6 a j = rI u6 a j := fun a j q => by
        rw [← hg6, rI_wI, if_neg (by omega), k5', rI_wI, if_neg (by omega), k4, rI_wI, if_neg (by omega), R1.1 _ _ (Bool.eq_false_iff.2 (fun y => by have := xro_f y; omega)), F5.1 _ _ (Bool.eq_false_iff.2 (fun y => by have := xoi_f y; omega))]
      have b164 : ∀ k, rI g6 164 k = if k = 1 then rI s 164 1 + 1 else rI s 164 k := fun k => by
        have g : ∀ k, rI g5 164 k = rI s 164 k := fun k => by rw [k5', rI_wI, if_neg (by omega), k4, rI_wI, if_neg (by omega), R1.1 _ _ rfl, F5.1 _ _ rfl, low _ _ (by decide)]
        rw [← hg6, rI_wI, g, g]
        simp only [true_and]
      have z3 : ∀ k, rI g6 3 k = rI s 3 k := fun k => by rw [hi6 _ _ (by decide), A6.1 _ _ rfl, O1.1 _ _ rfl]
      have z163 : ∀ k, rI g6 163 k = rI s 163 k := fun k => by rw [A9.1 _ _ rfl, R1.1 _ _ rfl, F5.1 _ _ rfl, low _ _ (by decide)]
      refine IA_X I O9 (itn g6 z3 z163 (by rw [hi6 _ _ (by decide)]; exact e21) (by rw [A9.1 _ _ rfl, R1.1 _ _ rfl]; exact e1)) ⟨?_, ?_⟩ (fun k hk => ?_)
      · rw [hi6 _ _ (by decide), e16, ← hg6, rI_wI, if_neg (by omega), k5', rI_wI, if_neg (by omega), k4, rI_wI, if_pos ⟨rfl, rfl⟩, X1]
      · have q8 : rI g4 162 6 = rI t' 162 6 := by rw [k4, rI_wI, if_neg (by omega)]
        rw [hi6 _ _ (by decide), e17, ← hg6, rI_wI, if_neg (by omega), k5', rI_wI, if_pos ⟨rfl, rfl⟩, q8, X4]
      · rw [hi6 _ _ (by decide), b1, b164, hIR k hk, hIR 1 (by decide)]
