def XQa (a j : Nat) : Bool := (Nat.beq a 4 || (Nat.beq a 5 || (Nat.ble 157 a && Nat.ble a 160))) || ((Nat.beq a 237 || (Nat.beq a 238 || Nat.beq a 239)) || ((Nat.beq a 2 && Nat.beq j 1) || ((Nat.beq a 0 && (Nat.beq j 16 || Nat.beq j 17)) || (Nat.beq a 162 && ((Nat.ble 1 j && Nat.ble j 8) || (Nat.beq j 10 || (Nat.beq j 39 || (Nat.beq j 50 || (Nat.beq j 61 || (Nat.ble 101 j && Nat.ble j 109))))))))))
theorem xqa_f {a j : Nat} (h : XQa a j = true) : a = 4 ∨ a = 5 ∨ (157 ≤ a ∧ a ≤ 160) ∨ a = 237 ∨ a = 238 ∨ a = 239 ∨ (a = 2 ∧ j = 1) ∨ (a = 0 ∧ (j = 16 ∨ j = 17)) ∨ (a = 162 ∧ ((1 ≤ j ∧ j ≤ 8) ∨ j = 10 ∨ j = 39 ∨ j = 50 ∨ j = 61 ∨ (101 ≤ j ∧ j ≤ 109))) := by
  unfold XQa at h
  simp only [Bool.or_eq_true, Bool.and_eq_true, Nat.beq_eq, Nat.ble_eq] at h
  omega
theorem xqa_t {a j : Nat} (h : a = 4 ∨ a = 5 ∨ (157 ≤ a ∧ a ≤ 160) ∨ a = 237 ∨ a = 238 ∨ a = 239 ∨ (a = 2 ∧ j = 1) ∨ (a = 0 ∧ (j = 16 ∨ j = 17)) ∨ (a = 162 ∧ ((1 ≤ j ∧ j ≤ 8) ∨ j = 10 ∨ j = 39 ∨ j = 50 ∨ j = 61 ∨ (101 ≤ j ∧ j ≤ 109)))) : XQa a j = true := by
  unfold XQa
  simp only [Bool.or_eq_true, Bool.and_eq_true, Nat.beq_eq, Nat.ble_eq]
  omega
theorem IA_Q {s t : sT} {fin most ppl bk mi : Nat} {L : Nat → List Nat} {lc cc : List Nat} {w : Nat → Nat} {κ : kT} (I : IA s fin most ppl bk mi L lc cc w κ) (h : FO XQa s t) (hT : IT t) (hF : IF t) : Inv t := by
  obtain ⟨⟨c1, c2, c3, c4, c5, c6⟩, i1, i2, i3, i4, i5⟩ := I
  have F := FO_fr h
  have o : ∀ f : Nat → Nat → Bool, (∀ a j, f a j = true → ¬ (a = 4 ∨ a = 5 ∨ (157 ≤ a ∧ a ≤ 160) ∨ a = 237 ∨ a = 238 ∨ a = 239 ∨ (a = 2 ∧ j = 1) ∨ (a = 0 ∧ (j = 16 ∨ j = 17)) ∨ (a = 162 ∧ ((1 ≤ j ∧ j ≤ 8) ∨ j = 10 ∨ j = 39 ∨ j = 50 ∨ j = 61 ∨ (101 ≤ j ∧ j ≤ 109))))) → off f XQa := fun f hf a j q => Bool.eq_false_iff.2 (fun y => hf a j q (xqa_f y))
  refine Inv_wO (o := s.2.2) ⟨fin, most, ppl, bk, mi, L, lc, cc, w, κ, ⟨IC_fr F (o _ fun a j q => ?_) c1, hT, IR_fr F (o _ fun a j q => ?_) c3, hF, IP_fr F (o _ fun a j q => ?_) c5, IS_fr F (o _ fun a j q => ?_) c6⟩, IO_fr F (o _ fun a j q => ?_) i1, IN_fr F (o _ fun a j q => ?_) i2, IH_fr F (o _ fun a j q => ?_) i3, IX_fr F (o _ fun a j q => ?_) i4, IK_fr F (o _ fun a j q => ?_) i5⟩
  · unfold fIC at q
    simp only [Bool.or_eq_true, Bool.and_eq_true, Nat.beq_eq, Nat.ble_eq] at q
    omega
  · unfold fIR at q
    simp only [Bool.or_eq_true, Bool.and_eq_true, Nat.beq_eq, Nat.ble_eq] at q
    omega
  · unfold fIP at q
    simp only [Bool.or_eq_true, Bool.and_eq_true, Nat.beq_eq, Nat.ble_eq] at q
    omega
  · unfold fIS at q
    simp only [Bool.or_eq_true, Bool.and_eq_true, Nat.beq_eq, Nat.ble_eq] at q
    omega
  · unfold fIO at q
    simp only [Bool.or_eq_true, Bool.and_eq_true, Nat.beq_eq, Nat.ble_eq, Bool.not_eq_true', ← Bool.not_eq_true] at q
    omega
  · unfold fIN at q
    simp only [Bool.or_eq_true, Bool.and_eq_true, Nat.beq_eq, Nat.ble_eq] at q
    omega
  · unfold fIH at q
    simp only [Bool.or_eq_true, Bool.and_eq_true, Nat.beq_eq, Nat.ble_eq] at q
    omega
  · unfold fIX at q
    simp only [Bool.or_eq_true, Bool.and_eq_true, Nat.beq_eq, Nat.ble_eq] at q
    omega
  · unfold fIK at q
    simp only [Bool.or_eq_true, Bool.and_eq_true, Nat.beq_eq, Nat.ble_eq] at q
    omega
/-- the class's own part -/
def XQ1 (a j : Nat) : Bool := Nat.beq a 4 || (Nat.beq a 5 || ((Nat.ble 157 a && Nat.ble a 160) || ((Nat.beq a 2 && Nat.beq j 1) || (Nat.beq a 0 && (Nat.beq j 16 || Nat.beq j 17)))))
theorem xq1_a {a j : Nat} (h : XQ1 a j = true) : XQa a j = true := by
  unfold XQ1 at h
  simp only [Bool.or_eq_true, Bool.and_eq_true, Nat.beq_eq, Nat.ble_eq] at h
  exact xqa_t (by omega)
theorem xq1_c {a j : Nat} (h : XCa a j = true) : XQ1 a j = true := by
  unfold XCa at h
  unfold XQ1
  simp only [Bool.or_eq_true, Bool.and_eq_true, Nat.beq_eq, Nat.ble_eq] at *
  omega
theorem xq1_q {a j : Nat} (h : XQc a j = true) : XQ1 a j = true := by
  unfold XQc at h
  unfold XQ1
  simp only [Bool.or_eq_true, Bool.and_eq_true, Nat.beq_eq, Nat.ble_eq] at *
  omega
theorem xqa_p {a j : Nat} (h : XPR a j = true) : XQa a j = true := by
  unfold XPR XLR at h
  simp only [Bool.or_eq_true, Bool.and_eq_true, Nat.beq_eq, Nat.ble_eq] at h
  exact xqa_t (by omega)
theorem xqa_r {a j : Nat} (h : XQr a j = true) : XQa a j = true := by
  unfold XQr at h
  simp only [Bool.or_eq_true, Bool.and_eq_true, Nat.beq_eq, Nat.ble_eq] at h
  exact xqa_t (by omega)
theorem fr_rP {s : sT} {g : Nat → Int64} {m : Nat} : Fr (fun a j => Nat.beq a 239 || (Nat.beq a 162 && Nat.beq j 107)) s (rP s g m) := by
  refine ⟨fun a j q => ?_, fun a j q => ?_, rfl⟩
  · rw [rI_rP, if_neg]
    rintro ⟨rfl, rfl⟩
    cases q
  · unfold rP
    rw [rJ_wI, rJ_wD, if_neg]
    rintro rfl
    cases q
/-- the reference begins to read a question -/
theorem r_askIn {b : Nat → Nat} {n : Nat} {Q : Int64 → sT → Prop} {s : sT} (hn : n ≤ 1600) (h49 : rI s 162 49 = 1) (h1 : rI s 162 1 = nI n) (h163 : tpC s 163 b) (I : IC s) (h : ∀ s', FO XQa s s' → Fr (fun a j => Nat.beq a 162 && ((Nat.ble 1 j && Nat.ble j 6) || (Nat.beq j 50 || (Nat.ble 101 j && Nat.ble j 105)))) s s' → rI s' 162 1 = 0 → RC s' s' b n 2 (skp b n 0, false) [] [] 0 0 5 → c12_qKind (ASKq Q) s') : c12_ask Q s := by
  refine e_c12_ask (br_f (by rw [h49]; decide) (fun u2 g2 u3 g3 u4 g4 u5 g5 u6 g6 u7 g7 u8 g8 u9 g9 u10 g10 u11 g11 u12 g12 => ?_))
  have F : Fr (fun a j => Nat.beq a 162 && ((Nat.ble 1 j && Nat.ble j 6) || (Nat.beq j 50 || (Nat.ble 101 j && Nat.ble j 105)))) s u12 := by
    rw [g12, g11, g10, g9, g8, g7, g6, g5, g4, g3, g2]
    exact fr_wI (fr_wI (fr_wI (fr_wI (fr_wI (fr_wI (fr_wI (fr_wI (fr_wI (fr_wI (fr_wI fr_rf rfl) rfl) rfl) rfl) rfl) rfl) rfl) rfl) rfl) rfl) rfl
  have v : ∀ j, rI u12 162 j = if j = 105 then 0 else if j = 104 then 0 else if j = 103 then 0 else if j = 101 then 0 else if j = 50 then 2 else if j = 6 then -1 else if j = 5 then 0 else if j = 4 then -1 else if j = 2 then 0 else if j = 1 then 0 else if j = 3 then nI n else rI s 162 j := fun j => by
    rw [g12, rI_wI, g11, rI_wI, g10, rI_wI, g9, rI_wI, g8, rI_wI, g7, rI_wI, g6, rI_wI, g5, rI_wI, g4, rI_wI, g3, rI_wI, g2, rI_wI, h1]
    simp only [true_and]
  refine h u12 (FO_mo (FO_of F) (fun a j q => ?_)) F (by rw [v]; rfl) ?_
  · simp only [Bool.and_eq_true, Bool.or_eq_true, Nat.beq_eq, Nat.ble_eq] at q
    exact xqa_t (by omega)
  · refine ⟨fr_rf, ⟨⟨hn, by rw [v]; rfl, fun k hk => by rw [F.1 _ _ rfl]; exact h163 k hk⟩, by rw [v]; rfl⟩, ⟨by rw [v]; rfl, skp_le (Nat.zero_le _), ⟨0, Nat.zero_le _, by rw [v]; rfl, rfl⟩, 0, Nat.zero_le _, by rw [v, cV_0]; rfl, ⟨(fun y => by cases y), fun y => by omega⟩⟩, IC_fr F (fun a j q => ?_) I, ⟨by rw [v]; rfl, fun k hk => absurd hk (Nat.not_lt_zero _)⟩, ⟨by rw [v]; rfl, fun k hk => absurd hk (Nat.not_lt_zero _)⟩, by rw [v]; rfl, by rw [v]; rfl, by rw [v]; rfl, Nat.le_add_left _ _, by decide, Nat.le_refl _, Nat.le_refl _⟩
    unfold fIC at q
    rw [Bool.eq_false_iff]
    intro y
    simp only [Bool.or_eq_true, Bool.and_eq_true, Nat.beq_eq, Nat.ble_eq] at *
    omega
theorem op_ask {s : sT} (I : Inv s) : twoJ Inv c11_ask c12_ask s := by
  obtain ⟨fin, most, ppl, bk, mi, L, lc, cc, w, κ, I⟩ := I
  obtain ⟨⟨hIC, hIT, -, hIF, -, -⟩, io, ⟨n1, n2, n3, n4, n5, n6, n7⟩, -⟩ := id I
  obtain ⟨hfo, -, -, -, -, -, -, OC, OR, -, -, hper⟩ := id io
  have h24 := OC.1
  have o2 := OC.2.1
  obtain ⟨n, hn, t1, t2, t3⟩ := hIT
  -- the tape is gone
  have itn : ∀ t, FO XQa s t → rI t 2 1 = 0 → rI t 162 1 = 0 → IT t := fun t F e1 e2 => by
    refine ⟨0, Nat.zero_le _, e1, e2, fun k hk => ?_⟩
    obtain ⟨x, hx, g1, g2⟩ := t3 k hk
    exact ⟨x, hx, by rw [F.1 3 k rfl]; exact g1, by rw [F.1 163 k rfl]; exact g2⟩
  by_cases hf : fin = 0
  · subst hf
    have h49 := (IO_not io rfl).2.2
    refine e_c11_ask (offC_f OC.2.2.2.1 (no0 (fun u hu => e_c12_ask (br_t (by rw [hu, rI_wI, if_neg (by omega)]; exact h49) (fun v hv => ⟨rfl, ?_⟩)))))
    have F : FO XQa s v := FO_wI (FO_of (by rw [hu]; exact fr_wI fr_rf rfl)) rfl hv
    refine IA_Q I F (itn v F (by rw [hv, rI_wI, if_neg (by omega), hu, rI_wI, if_pos ⟨rfl, rfl⟩]) (by rw [hv, rI_wI, if_pos ⟨rfl, rfl⟩])) ?_
    have r : ∀ a j, ¬ (a = 2 ∧ j = 1) → ¬ (a = 162 ∧ j = 1) → rI v a j = rI s a j := fun a j q1 q2 => by rw [hv, rI_wI, if_neg (by omega), hu, rI_wI, if_neg (by omega)]
    exact ⟨by rw [r _ _ (by omega) (by omega), r _ _ (by omega) (by omega)]; exact hIF.1, by rw [r _ _ (by omega) (by omega), r _ _ (by omega) (by omega)]; exact hIF.2⟩
  have h49 := (IO_told io (by omega)).2.1
  have hb : ∀ k, k < 1600 → (rI s 3 k).toNatClampNeg < 256 ∧ rI s 3 k = nI ((rI s 3 k).toNatClampNeg) ∧ rI s 163 k = nI ((rI s 3 k).toNatClampNeg) := fun k hk => by
    obtain ⟨x, hx, g1, g2⟩ := t3 k hk
    have : (rI s 3 k).toNatClampNeg = x := by rw [g1, nI_clamp (by omega)]
    rw [this]
    exact ⟨hx, g1, g2⟩
  generalize hbb : (fun k => (rI s 3 k).toNatClampNeg) = b
  have hb' : ∀ k, k < 1600 → b k < 256 ∧ rI s 3 k = nI (b k) ∧ rI s 163 k = nI (b k) := by rw [← hbb]; exact hb
  have T : TC s b n := ⟨hn, t1, fun k hk => ⟨(hb' k hk).1, (hb' k hk).2.1⟩⟩
  -- the reference reads
  have rin : ∀ (Q : Int64 → sT → Prop) s1, FO XQ1 s s1 → (∀ s', FO XQa s s' → Fr (fun a j => Nat.beq a 162 && ((Nat.ble 1 j && Nat.ble j 6) || (Nat.beq j 50 || (Nat.ble 101 j && Nat.ble j 105)))) s1 s' → rI s' 162 1 = 0 → RC s' s' b n 2 (skp b n 0, false) [] [] 0 0 5 → c12_qKind (ASKq Q) s') → c12_ask Q s1 := fun Q s1 F1 h => by
    refine r_askIn hn (by rw [F1.1 _ _ rfl]; exact h49) (by rw [F1.1 _ _ rfl]; exact t2) (fun k hk => ⟨(hb' k hk).1, by rw [F1.1 _ _ rfl]; exact (hb' k hk).2.2⟩) ?_ (fun s' O F e R => h s' (FO_tr (FO_mo F1 fun a j q => xq1_a q) O) F e R)
    exact IC_fr (X := XQ1) (t := wO s1 s.2.2) (FO_fr F1) (fun a j q => by
      unfold fIC at q
      unfold XQ1
      rw [Bool.eq_false_iff]
      intro y
      simp only [Bool.or_eq_true, Bool.and_eq_true, Nat.beq_eq, Nat.ble_eq] at *
      omega) hIC
  refine e_c11_ask (offC_t OC.2.2.2.1 h24 (by omega) (yes1 (c_readQ T (fun s1 K z Cp hK hz O1 e4 e5 e2 e8 hlen hty hro u6 g6 => e_c11_keepFault (fun u7 g7 u8 g8 => ?_)) (fun s1 f pl O1 e4 e5 hrf u6 g6 => e_c11_keepFault (fun u7 g7 u8 g8 => ?_)))))
  · -- a question
    have O8 : FO XQ1 s u8 := FO_wI (FO_wI (FO_wI (FO_mo O1 fun a j q => xq1_c q) rfl g6) rfl g7) rfl g8
    have k8 : ∀ a j, ¬ (a = 2 ∧ j = 1) → ¬ (a = 0 ∧ j = 16) → ¬ (a = 0 ∧ j = 17) → rI u8 a j = rI s1 a j := fun a j q1 q2 q3 => by rw [g8, rI_wI, if_neg (by omega), g7, rI_wI, if_neg (by omega), g6, rI_wI, if_neg (by omega)]
    have f16 : rI u8 0 16 = 0 := by rw [g8, rI_wI, if_neg (by omega), g7, rI_wI, if_pos ⟨rfl, rfl⟩, g6, rI_wI, if_neg (by omega)]; exact e4
    have f17 : rI u8 0 17 = (-1 : Int32) := by rw [g8, rI_wI, if_pos ⟨rfl, rfl⟩, g7, rI_wI, if_neg (by omega), g6, rI_wI, if_neg (by omega)]; exact e5
    have f2 : rI u8 2 1 = 0 := by rw [g8, rI_wI, if_neg (by omega), g7, rI_wI, if_neg (by omega), g6, rI_wI, if_pos ⟨rfl, rfl⟩]
    have x1 : ∀ a j, a ≠ 4 → a ≠ 5 → (a < 157 ∨ 160 < a) → a ≠ 2 → a ≠ 0 → XQ1 a j = false := fun a j p1 p2 p3 p4 p5 => by
      unfold XQ1
      rw [Bool.eq_false_iff]
      intro y
      simp only [Bool.or_eq_true, Bool.and_eq_true, Nat.beq_eq, Nat.ble_eq] at y
      omega
    have OC8 : OCc u8 fin ppl bk L lc := OCc_fr (t := wO u8 s.2.2) (FO_fr O8) (fun a j q1 q2 q3 => x1 a j (by omega) (by omega) (by omega) (by omega) (by omega)) OC
    have W8 : StW u8 38 w := StW_fr (s' := wO u8 s.2.2) (FO_fr O8) (fun a j q1 q2 => x1 a j (by omega) (by omega) (by omega) (by omega) (by omega)) n1
    have pf : ∀ i, i < ppl → ∃ a b' F, a ≤ 24 ∧ b' ≤ 24 ∧ F < 2 ^ fin ∧ rI s 23 i = nI a ∧ rI s 24 i = nI b' ∧ rI s 34 i = nI F ∧ rI s 195 (12 + 2 * i) = nI a ∧ rI s 195 (13 + 2 * i) = nI b' ∧ rI s 206 i = nI F := fun i hi => by
      obtain ⟨-, ⟨a, b', p1, p2, p3, p4, p5, p6, p7, p8⟩, F, p9, p10, p11⟩ := hper i hi
      exact ⟨a, b', F, p2, p4, p9, p5, p7, p10, p6, p8, p11⟩
    have h2f : 2 ^ fin ≤ 2 ^ 24 := Nat.pow_le_pow_right (by decide) h24
    have pg : ∀ i, i < ppl → (rI s 23 i).toNatClampNeg ≤ 24 ∧ (rI s 24 i).toNatClampNeg ≤ 24 ∧ (rI s 34 i).toNatClampNeg < 2 ^ fin ∧ rI s 23 i = nI ((rI s 23 i).toNatClampNeg) ∧ rI s 24 i = nI ((rI s 24 i).toNatClampNeg) ∧ rI s 34 i = nI ((rI s 34 i).toNatClampNeg) ∧ rI s 195 (12 + 2 * i) = nI ((rI s 23 i).toNatClampNeg) ∧ rI s 195 (13 + 2 * i) = nI ((rI s 24 i).toNatClampNeg) ∧ rI s 206 i = nI ((rI s 34 i).toNatClampNeg) := fun i hi => by
      obtain ⟨a, b', F, p1, p2, p3, p4, p5, p6, p7, p8, p9⟩ := pf i hi
      rw [p4, p5, p6, nI_clamp (by omega), nI_clamp (by omega), nI_clamp (by omega)]
      exact ⟨p1, p2, p3, rfl, rfl, rfl, p7, p8, p9⟩
    generalize htp : (fun i => (rI s 23 i).toNatClampNeg) = tp
    generalize hbt : (fun i => (rI s 24 i).toNatClampNeg) = bt
    generalize hFi : (fun i => (rI s 34 i).toNatClampNeg) = Fi
    have ph : ∀ i, i < ppl → tp i ≤ 24 ∧ bt i ≤ 24 ∧ Fi i < 2 ^ fin ∧ rI s 23 i = nI (tp i) ∧ rI s 24 i = nI (bt i) ∧ rI s 34 i = nI (Fi i) ∧ rI s 195 (12 + 2 * i) = nI (tp i) ∧ rI s 195 (13 + 2 * i) = nI (bt i) ∧ rI s 206 i = nI (Fi i) := by rw [← htp, ← hbt, ← hFi]; exact pg
    have hq : qOK w tp bt (fun i => (L i).length) Fi fin ppl := ⟨n3.1, n3.2.1, fun i hi => ⟨(ph i hi).1, (ph i hi).2.1, (OC.2.2.2.2.2.2.2 i hi).1.2.1, (ph i hi).2.2.1⟩⟩
    have cell : ∀ a j, a ≠ 4 → a ≠ 5 → (a < 157 ∨ 160 < a) → a ≠ 2 → a ≠ 0 → rI u8 a j = rI s a j := fun a j p1 p2 p3 p4 p5 => O8.1 _ _ (x1 a j p1 p2 p3 p4 p5)
    have A : anC z ppl (evQ Cp w tp bt (fun i => (L i).length) Fi) u8 := fun i hi s' Q F' h' => by
      obtain ⟨p1, p2, p3, p4, p5, p6, p7, p8, p9⟩ := ph i hi
      exact w_ansC OC8 W8 hq hi rfl (by rw [cell _ _ (by decide) (by decide) (by decide) (by decide) (by decide)]; exact p4) (by rw [cell _ _ (by decide) (by decide) (by decide) (by decide) (by decide)]; exact p5) (by rw [cell _ _ (by decide) (by decide) (by decide) (by decide) (by decide)]; exact p6) (by rw [k8 _ _ (by omega) (by omega) (by omega)]; exact e2) hlen (fun k hk => by rw [k8 _ _ (by omega) (by omega) (by omega)]; exact e8 k hk) hty F' h'
    refine a_all o2 hK OC8.2.2.2.2.1 A (fun s9 r F9 hr => ?_)
    have O9 : FO XQ1 s s9 := FO_tr O8 (FO_mo (FO_of F9) (fun a j q => xq1_q q))
    refine rin _ s9 O9 (fun s10 O10 F10 e10 R10 => hro s10 _ R10 (fun s11 P' d R11 => ?_))
    have O11 : FO XQa s s11 := FO_tr O10 (FO_mo (FO_of R11.1) (fun a j q => xqa_p q))
    -- the reference answers
    have go : ∀ (c : Int64) (u1 u2 u3 u4 u5 : sT), c.toInt = asF K (evQ Cp w tp bt (fun i => (L i).length) Fi) 0 → u1 = wI s11 162 7 (rI s11 162 5) → u2 = wI u1 162 8 (rI u1 162 6) → u3 = wJ u2 162 108 c → u4 = wI u3 162 109 (1 : Int32) → u5 = wI u4 162 50 (2 : Int32) → c12_ask_188 (nI K) (0 : Int32) (fun r2 s2 => r = r2 ∧ Inv s2) u5 := by
      intro c u1 u2 u3 u4 u5 hc v1 v2 v3 v4 v5
      have F5 : Fr (fun a j => Nat.beq a 162 && (Nat.beq j 7 || (Nat.beq j 8 || (Nat.beq j 108 || (Nat.beq j 109 || Nat.beq j 50))))) s11 u5 := by
        rw [v5, v4, v3, v2, v1]
        exact fr_wI (fr_wI (fr_wJ (fr_wI (fr_wI fr_rf rfl) rfl) rfl) rfl) rfl
      have O5 : FO XQa s u5 := FO_tr O11 (FO_mo (FO_of F5) (fun a j q => by
        simp only [Bool.or_eq_true, Bool.and_eq_true, Nat.beq_eq, Nat.ble_eq] at q
        exact xqa_t (by omega)))
      have c7 : rI u5 162 7 = 0 := by rw [v5, rI_wI, if_neg (by omega), v4, rI_wI, if_neg (by omega), v3, rI_wJ, v2, rI_wI, if_neg (by omega), v1, rI_wI, if_pos ⟨rfl, rfl⟩]; exact R11.2.2.1.1
      have c8 : rI u5 162 8 = (-1 : Int32) := by rw [v5, rI_wI, if_neg (by omega), v4, rI_wI, if_neg (by omega), v3, rI_wJ, v2, rI_wI, if_pos ⟨rfl, rfl⟩, v1, rI_wI, if_neg (by omega)]; exact R11.2.1.2
      have xa : ∀ a j, a ≠ 4 → a ≠ 5 → (a < 157 ∨ 160 < a) → a ≠ 2 → a ≠ 0 → a ≠ 162 → (a < 237 ∨ 239 < a) → XQa a j = false := fun a j p1 p2 p3 p4 p5 p6 p7 => Bool.eq_false_iff.2 (fun y => by have := xqa_f y; omega)
      have OR5 : OCr u5 fin ppl bk L lc := OCr_fr (t := wO u5 s.2.2) (FO_fr O5) (fun a j q => xa a j (by omega) (by omega) (by omega) (by omega) (by omega) (by omega) (by omega)) OR
      have N5 : NwW u5 w := fun k hk => by rw [O5.1 _ _ (xa _ _ (by omega) (by omega) (by omega) (by omega) (by omega) (by omega) (by omega))]; exact n2 k hk
      have AR : anR z ppl (evQ Cp w tp bt (fun i => (L i).length) Fi) u5 := fun i hi s' Q F' e61 h' => by
        obtain ⟨p1, p2, p3, p4, p5, p6, p7, p8, p9⟩ := ph i hi
        have kk : ∀ a j, XQr a j = false → XQa a j = false → rI s' a j = rI s a j := fun a j q1 q2 => by rw [F'.1 _ _ q1, O5.1 _ _ q2]
        have OR' : OCr s' fin ppl bk L lc := OCr_fr F' (fun a j q => by rcases q with rfl | rfl | rfl | rfl | rfl | rfl <;> rfl) OR5
        have N' : NwW s' w := fun k hk => by rw [F'.1 _ _ rfl]; exact N5 k hk
        have fq : facR s' i alQ (ffQ w tp bt (fun i => (L i).length) i) (foQ w Fi i) := facQ OR' N' hq hi rfl (by rw [kk _ _ rfl rfl]; exact p7) (by rw [kk _ _ rfl rfl]; exact p8) (by rw [kk _ _ rfl rfl]; exact p9) e61
        refine w_told fq (by rw [F'.1 _ _ rfl, F5.1 _ _ rfl]; exact R11.2.2.2.2.1.1) hlen (fun k hk => by rw [F'.1 _ _ rfl, F5.1 _ _ rfl]; exact R11.2.2.2.2.1.2 k hk) hty (fun x r' g m hx ht hr' => ?_)
        have ee : evQ Cp w tp bt (fun i => (L i).length) Fi i = x := by
          unfold evQ
          rw [hx]
        exact h' _ r' fr_rP (by rw [ee]; exact hr') (by rw [ee]; exact ht)
      refine r_asks188 o2 hK OR5.2.2.2.2.1 AR hz (fun s12 r2 F12 hr2 => ⟨iL hr hr2, ?_⟩) ppl 0 u5 (Nat.zero_add _) fr_rf ⟨?_, ?_⟩ bdS_0
      · rw [v5, rJ_wI, v4, rJ_wI, v3, rJ_wJ, if_pos ⟨rfl, rfl⟩]
        exact hc
      · rw [v5, rI_wI, if_neg (by omega), v4, rI_wI, if_pos ⟨rfl, rfl⟩]
        rfl
      · have O12 : FO XQa s s12 := FO_tr O5 (FO_mo (FO_of F12) (fun a j q => xqa_r q))
        refine IA_Q I O12 (itn s12 O12 ?_ ?_) ⟨?_, ?_⟩
        · rw [F12.1 _ _ rfl, F5.1 _ _ rfl, R11.1.1 _ _ rfl, F10.1 _ _ rfl, F9.1 _ _ rfl]
          exact f2
        · rw [F12.1 _ _ rfl, F5.1 _ _ rfl, R11.1.1 _ _ rfl]
          exact e10
        · rw [F12.1 0 16 rfl, F5.1 0 16 rfl, R11.1.1 0 16 rfl, F10.1 0 16 rfl, F9.1 0 16 rfl, f16, F12.1 162 7 rfl, c7]
        · rw [F12.1 0 17 rfl, F5.1 0 17 rfl, R11.1.1 0 17 rfl, F10.1 0 17 rfl, F9.1 0 17 rfl, f17, F12.1 162 8 rfl, c8]
    refine e_c12_ask_133 (fun u1 v1 u2 v2 => br_t ?_ ?_)
    · rw [v2, rI_wI, if_neg (by omega), v1, rI_wI, if_neg (by omega)]
      exact R11.2.2.1.1
    · rw [show (2 : Int32) = nI 2 from rfl, nI_ltI (by omega) (by decide)]
      have m1 : (-1 : Int64).toInt = -1 := rfl
      refine br_c (fun q u3 v3 u4 v4 u5 v5 => go _ u1 u2 u3 u4 u5 ?_ v1 v2 v3 v4 v5) (fun q u3 v3 u4 v4 u5 v5 => go _ u1 u2 u3 u4 u5 ?_ v1 v2 v3 v4 v5)
      · have : K = 0 ∨ K = 1 := by omega
        rcases this with rfl | rfl <;> rfl
      · have : K = 2 ∨ K = 3 ∨ K = 4 ∨ K = 5 := by omega
        rcases this with rfl | rfl | rfl | rfl <;> rfl
  · -- none
    have O8 : FO XQ1 s u8 := FO_wI (FO_wI (FO_wI (FO_mo O1 fun a j q => xq1_c q) rfl g6) rfl g7) rfl g8
    have f16 : rI u8 0 16 = nI f := by rw [g8, rI_wI, if_neg (by omega), g7, rI_wI, if_pos ⟨rfl, rfl⟩, g6, rI_wI, if_neg (by omega)]; exact e4
    have f17 : rI u8 0 17 = nI pl := by rw [g8, rI_wI, if_pos ⟨rfl, rfl⟩, g7, rI_wI, if_neg (by omega), g6, rI_wI, if_neg (by omega)]; exact e5
    have f2 : rI u8 2 1 = 0 := by rw [g8, rI_wI, if_neg (by omega), g7, rI_wI, if_neg (by omega), g6, rI_wI, if_pos ⟨rfl, rfl⟩]
    refine br_f (by decide) (br_f (by decide) (br_f (by decide) (br_f (by decide) (br_f (by decide) (br_f (by decide) (rin _ u8 O8 (fun s10 O10 F10 e10 R10 => hrf s10 _ R10 (fun s11 y F11 X11 => e_c12_ask_133 (fun u1 v1 u2 v2 => ?_)))))))))
    have F2 : Fr (fun a j => Nat.beq a 162 && (Nat.beq j 7 || Nat.beq j 8)) s11 u2 := by rw [v2, v1]; exact fr_wI (fr_wI fr_rf rfl) rfl
    have O2 : FO XQa s u2 := FO_tr O10 (FO_tr (FO_mo (FO_of F11) (fun a j q => xqa_p q)) (FO_mo (FO_of F2) (fun a j q => by
      simp only [Bool.or_eq_true, Bool.and_eq_true, Nat.beq_eq, Nat.ble_eq] at q
      exact xqa_t (by omega))))
    refine br_f (by rw [F2.1 _ _ rfl]; exact RX_n0 X11) ⟨rfl, IA_Q I O2 (itn u2 O2 ?_ ?_) ⟨?_, ?_⟩⟩
    · rw [F2.1 _ _ rfl, F11.1 _ _ rfl, F10.1 _ _ rfl]
      exact f2
    · rw [F2.1 _ _ rfl, F11.1 _ _ rfl]
      exact e10
    · rw [F2.1 0 16 rfl, F11.1 0 16 rfl, F10.1 0 16 rfl, f16, v2, rI_wI, if_neg (by omega), v1, rI_wI, if_pos ⟨rfl, rfl⟩, X11.1]
    · rw [F2.1 0 17 rfl, F11.1 0 17 rfl, F10.1 0 17 rfl, f17, v2, rI_wI, if_pos ⟨rfl, rfl⟩, v1, rI_wI, if_neg (by omega), X11.2.2.2]
