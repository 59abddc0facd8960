/-- refusals leave the rest -/
theorem hdV {fin ppl p x : Nat} {w : Nat → Nat} (h : wV fin ppl w) (hp : p < ppl) : wV fin ppl (hdW w p x) := by
  obtain ⟨h1, h2, h3⟩ := h
  refine ⟨fun n => ?_, fun n a b => ?_, fun q a b => ⟨?_, ?_⟩⟩
  · unfold hdW uN
    split
    · split <;> omega
    · split
      · omega
      · exact Nat.le_trans tkW_le (h1 n)
  · rw [hdW_n (by omega)]
    have := tkW_le (x := x) (w := w) (n := n)
    have := h2 n a b
    omega
  · rw [hdW_h, if_neg (by omega)]; exact (h3 q a b).1
  · rw [hdW_t, if_neg (by omega)]; exact (h3 q a b).2
theorem cS_of {X : Nat → Nat → Bool} {s t : sT} (h : Fr X s t) (h1 : X 0 15 = false) (h2 : X 162 75 = false) (I : IS s) : IS t := by
  refine IS_fr h (fun a j q => ?_) I
  unfold fIS at q
  simp only [Bool.or_eq_true, Bool.and_eq_true, Nat.beq_eq] at q
  rcases q with ⟨rfl, rfl⟩ | ⟨rfl, rfl⟩
  · exact h1
  · exact h2
/-- the stock of the class with one number changed -/
def Xst (a _ : Nat) : Bool := Nat.beq a 39
theorem xst_f {a j : Nat} (h : a ≠ 39) : Xst a j = false := by
  unfold Xst
  rw [Bool.eq_false_iff]
  intro z
  exact h (Nat.eq_of_beq_eq_true z)
def X200 (a j : Nat) : Bool := Nat.beq a 200 && Nat.ble j 36
theorem x200_f {a j : Nat} (h : a ≠ 200 ∨ 37 ≤ j) : X200 a j = false := by
  unfold X200
  rw [Bool.eq_false_iff]
  intro z
  simp only [Bool.and_eq_true, Nat.beq_eq, Nat.ble_eq] at z
  omega
/-- an act that changes pieces alone: the class keeps and changes, then the reference -/
theorem act_stock {s : sT} {fin most ppl bk mi : Nat} {L : Nat → List Nat} {lc cc : List Nat} {w w' : Nat → Nat} {κ : kT} {s1 s2 s3 s4 : sT} (I : IA s fin most ppl bk mi L lc cc w κ) (F1 : Fr XhC s s1) (F2 : Fr Xst s1 s2) (W2 : StW s2 38 w') (F3 : Fr XhR s2 s3) (H3 : IH s3 fin ppl) (F4 : Fr X200 s3 s4) (N4 : NwW s4 w') (hV : wV fin ppl w') : Inv s4 := by
  obtain ⟨⟨-, -, -, -, -, cS⟩, io, ⟨n1, n2, n3, n4, n5, n6, n7⟩, ih, -⟩ := id I
  have e39 : ∀ j, Xw 39 j = true := fun j => xw_38 (by omega)
  have F : Fr Xw s s4 := fr_tr (fr_tr (fr_mo F1 fun a j q => xw_c q) (fr_mo F2 fun a j q => by
    have : a = 39 := Nat.eq_of_beq_eq_true q
    subst this
    exact e39 j)) (fr_tr (fr_mo F3 fun a j q => xw_r q) (fr_mo F4 fun a j q => by
    unfold X200 at q
    simp only [Bool.and_eq_true, Nat.beq_eq, Nat.ble_eq] at q
    refine xw_z ?_
    unfold Xz
    simp only [Bool.or_eq_true, Bool.and_eq_true, Nat.beq_eq, Nat.ble_eq]
    omega))
  have K4 : KpC s4 38 κ := KpC_fr F4 (fun a j q => x200_f (by omega)) (KpC_fr F3 (fun a j q => xhR_f (by omega)) (KpC_fr F2 (fun a j q => xst_f (by omega)) (KpC_fr F1 (fun a j q => xhC_f (by omega)) n4)))
  refine IA_Inv (IA_w I F ?_ ⟨?_, N4, hV, K4, ?_, ?_, ?_⟩ (IH_fr F4 (fun a j q => ?_) H3))
  · exact cS_of F4 rfl rfl (cS_of F3 rfl rfl (cS_of F2 rfl rfl (cS_of F1 rfl rfl cS)))
  · exact StW_fr F4 (fun a j p q => x200_f (by omega)) (StW_fr F3 (fun a j p q => xhR_f (by omega)) W2)
  · exact KpR_of (fun j hj => by rw [F4.1 _ _ (x200_f (by omega)), F3.1 _ _ (xhR_f (by omega)), F2.1 _ _ (xst_f (by omega)), F1.1 _ _ (xhC_f (by omega))]) n5
  · rw [F4.1 _ _ (x200_f (by omega)), F3.1 _ _ (xhR_f (by omega)), F2.1 _ _ (xst_f (by omega)), F1.1 _ _ (xhC_f (by omega))]; exact n6
  · exact k148_fr F4 (fun a j q => x200_f (by omega)) (k148_fr F3 (fun a j q => xhR_f (by omega)) (k148_fr F2 (fun a j q => xst_f (by omega)) (k148_fr F1 (fun a j q => xhC_f (by omega)) n7)))
  · unfold fIH at q
    simp only [Bool.or_eq_true, Bool.and_eq_true, Nat.beq_eq, Nat.ble_eq] at q
    exact x200_f (by omega)
theorem StW_1 {s t : sT} {w : Nat → Nat} {n v : Nat} (W : StW s 38 w) (h1 : 1 ≤ n) (h2 : n < 25) (e : t = wI s 39 n (nI v)) : StW t 38 (uN w n v) := by
  obtain ⟨a, b, c, d, f⟩ := W
  refine ⟨?_, ?_, fun k q r => ?_, fun p hp => ?_, fun p hp => ?_⟩
  · rw [e, rI_wI, if_neg (by omega), uN_ne (by omega)]; exact a
  · rw [e, rI_wI, if_neg (by omega)]; exact b
  · rw [e, rI_wI]
    by_cases z : k = n
    · rw [if_pos ⟨rfl, z⟩, z, uN_eq]
    · rw [if_neg (fun y => z y.2), uN_ne z]; exact c k q r
  · rw [e, rI_wI, if_neg (by omega), uN_ne (by omega)]; exact d p hp
  · rw [e, rI_wI, if_neg (by omega), uN_ne (by omega)]; exact f p hp
theorem NwW_1 {s t : sT} {w : Nat → Nat} {n v : Nat} (N : NwW s w) (e : t = wI s 200 n (nI v)) : NwW t (uN w n v) := fun k hk => by
  rw [e, rI_wI]
  by_cases z : k = n
  · rw [if_pos ⟨rfl, z⟩, z, uN_eq]
  · rw [if_neg (fun y => z y.2), uN_ne z]; exact N k hk
theorem uN_V {fin ppl n v : Nat} {w : Nat → Nat} (h : wV fin ppl w) (h1 : n ≤ fin) (h24 : fin ≤ 24) (hv : v ≤ 999) : wV fin ppl (uN w n v) := by
  obtain ⟨a, b, c⟩ := h
  refine ⟨fun k => ?_, fun k p q => ?_, fun p q r => ⟨?_, ?_⟩⟩
  · by_cases z : k = n
    · rw [z, uN_eq]; exact hv
    · rw [uN_ne z]; exact a k
  · rw [uN_ne (by omega)]; exact b k p q
  · rw [uN_ne (by omega)]; exact (c p q r).1
  · rw [uN_ne (by omega)]; exact (c p q r).2
theorem op_bake {s : sT} (v : Int32) (I : Inv s) : two Inv (c11_bake v) (c12_bake v) s := by
  obtain ⟨fin, most, ppl, bk, mi, L, lc, cc, w, κ, I⟩ := I
  have I2 := I
  obtain ⟨⟨-, -, -, -, -, cS⟩, io, ⟨n1, n2, n3, n4, n5, n6, n7⟩, ih, -⟩ := I2
  have io2 := io
  obtain ⟨-, -, -, -, -, -, -, OC, OR, -⟩ := io2
  have h24 := OC.1
  have h1w := n3.1 1
  have L99 : (99 : Int64).toInt = 99 := rfl
  by_cases ok : 1 ≤ fin ∧ ∃ n, 1 ≤ n ∧ n ≤ 99 ∧ w 1 + n ≤ 999 ∧ v = nI n
  · obtain ⟨hf, n, g1, g2, g3, rfl⟩ := ok
    have ht := (IO_told io (by omega)).2.1
    have e39 : rI s 39 1 = nI (w 1) := n1.2.2.1 1 (by decide) (by decide)
    refine e_c11_bake (offC_t OC.2.2.2.1 h24 hf (yes1 (br_f (nI_nlt (b := 1) g1 (by omega)) (br_f (nI_nlt (a := 99) g2 (by decide)) (br_f (by rw [e39, nI_add]; exact nI_nlt (a := 999) g3 (by decide)) (w_keepC ih n1 n4 (fun s1 F1 H1 s2 h2 => ?_)))))))
    have W1 : StW s1 38 w := StW_fr F1 (fun a j p q => xhC_f (by omega)) n1
    rw [W1.2.2.1 1 (by decide) (by decide), nI_add] at h2
    have F2 : Fr Xst s1 s2 := by rw [h2]; exact fr_wI fr_rf rfl
    have W2 := StW_1 W1 (by decide) (by decide) h2
    have r2 : ∀ a j, ¬ (38 ≤ a ∧ a ≤ 144) → rI s2 a j = rI s a j := fun a j p => by rw [F2.1 _ _ (xst_f (by omega)), F1.1 _ _ (xhC_f (by omega))]
    have N2 : NwW s2 w := fun k hk => by rw [r2 _ _ (by omega)]; exact n2 k hk
    have KR2 : KpR s2 κ := KpR_of (fun j _ => r2 _ _ (by omega)) n5
    have eA : rI s2 39 1 = nI (w 1 + n) := by rw [h2, rI_wI, if_pos ⟨rfl, rfl⟩]
    refine e_c12_bake (br_f (by rw [r2 _ _ (by omega), ht]; decide) (isIn_t (by rw [wide, L1, L99, nI_toInt (by omega)]; omega) (yes1 (br_f (by rw [N2 1 (by omega), nI_add]; exact nI_nlt (a := 999) g3 (by decide)) (w_keepsR (IHm_fr F2 (fun a j q => xst_f (fun z => by subst z; cases q)) H1) n3 N2 KR2 (fun s3 F3 H3 s4 h4 => ?_))))))
    have N3 : NwW s3 w := NwW_fr F3 (fun _ _ => xhR_f (by omega)) N2
    rw [N3 1 (by omega), nI_add] at h4
    refine ⟨?_, act_stock I F1 F2 W2 F3 H3 (by rw [h4]; exact fr_wI fr_rf rfl) (NwW_1 N3 h4) (uN_V n3 hf h24 g3)⟩
    rw [eA, h4, rI_wI, if_pos ⟨rfl, rfl⟩]
  · have R : c12_bake v (fun r2 s2 => -1 = r2 ∧ Inv s2) (wI s 1 2 (rI s 1 2 + 1)) := by
      have hb : c12_refuses (nI 2) (fun r2 s2 => -1 = r2 ∧ Inv s2) (wI s 1 2 (rI s 1 2 + 1)) := refR (k := 2) (by decide) ⟨rfl, Inv_bump (IA_Inv I)⟩
      refine e_c12_bake (br_c (fun _ => hb) (fun q => m_isIn (fun y => yes1 (br_c (fun _ => hb) (fun q2 => ?_))) (fun _ => no0 hb)))
      rw [wide, L1, L99] at y
      have e : v = nI v.toInt.toNat := i_nI (by omega) (by omega)
      rw [rI_wI, if_neg (by omega), n2 1 (by omega), e, nI_add, show (999 : Int32) = nI 999 from rfl, nI_ltI (by decide) (by omega)] at q2
      rw [rI_wI, if_neg (by omega)] at q
      have hf : 1 ≤ fin := by
        rcases Nat.eq_zero_or_pos fin with z | z
        · exact absurd (IO_not io z).2.2 q
        · exact z
      exact absurd ⟨hf, v.toInt.toNat, by omega, by omega, by omega, e⟩ ok
    have hb : c11_refuse (nI 2) (fun r1 s1 => c12_bake v (fun r2 s2 => r1 = r2 ∧ Inv s2) s1) s := refC (k := 2) (by decide) R
    refine e_c11_bake ?_
    by_cases hf : fin = 0
    · exact offC_f (by rw [OC.2.2.2.1, hf]) (no0 hb)
    · refine offC_t OC.2.2.2.1 h24 (by omega) (yes1 (br_c (fun _ => hb) (fun q1 => br_c (fun _ => hb) (fun q2 => br_c (fun _ => hb) (fun q3 => ?_)))))
      rw [fa_lt, l1] at q1
      rw [fa_lt] at q2
      have q2' : ¬ (99 : Int) < v.toInt := q2
      have e : v = nI v.toInt.toNat := i_nI (by omega) (by omega)
      rw [n1.2.2.1 1 (by decide) (by decide), e, nI_add, show (999 : Int32) = nI 999 from rfl, nI_ltI (by decide) (by omega)] at q3
      exact absurd ⟨by omega, v.toInt.toNat, by omega, by omega, by omega, e⟩ ok
theorem op_cut {s : sT} (v : Int32) (I : Inv s) : two Inv (c11_cut v) (c12_cut v) s := by
  obtain ⟨fin, most, ppl, bk, mi, L, lc, cc, w, κ, I⟩ := I
  have I2 := I
  obtain ⟨⟨-, -, -, -, -, cS⟩, io, ⟨n1, n2, n3, n4, n5, n6, n7⟩, ih, -⟩ := I2
  have io2 := io
  obtain ⟨-, -, -, -, -, -, -, OC, OR, -⟩ := io2
  have h24 := OC.1
  have h1w := n3.1 1
  have L2 : (2 : Int64).toInt = 2 := rfl
  have e391 : rI s 39 1 = nI (w 1) := n1.2.2.1 1 (by decide) (by decide)
  by_cases ok : ∃ n, 2 ≤ n ∧ n ≤ fin ∧ 1 ≤ w 1 ∧ w n + n ≤ 999 ∧ v = nI n
  · obtain ⟨n, g1, g2, g3, g4, rfl⟩ := ok
    have ht := (IO_told io (by omega)).2.1
    have hwn := n3.1 n
    have e39 : rI s 39 n = nI (w n) := n1.2.2.1 n (by omega) (by omega)
    refine e_c11_cut (br_f (nI_nlt (b := 2) g1 (by omega)) (sizC_t OC.2.2.2.1 h24 (by omega) g2 (yes1 (br_f (by rw [e391]; exact nI_nlt (b := 1) g3 (by omega)) ⟨vp_in_nI (by omega) (by decide), br_f (by rw [nI_clamp (by omega), e39, nI_add]; exact nI_nlt (a := 999) g4 (by decide)) (w_keepC ih n1 n4 (fun s1 F1 H1 s2 h2 => ⟨vp_in_nI (by omega) (by decide), vp_in_nI (by omega) (by decide), fun s2b h2b => ⟨vp_in_nI (by omega) (by decide), ?_⟩⟩))⟩))))
    have W1 : StW s1 38 w := StW_fr F1 (fun a j p q => xhC_f (by omega)) n1
    rw [W1.2.2.1 1 (by decide) (by decide), show (1 : Int32) = nI 1 from rfl, pk_sub g3] at h2
    have W2 := StW_1 W1 (by decide) (by decide) h2
    rw [nI_clamp (by omega), W2.2.2.1 n (by omega) (by omega), uN_ne (by omega), nI_add] at h2b
    have W2b := StW_1 W2 (by omega) (by omega) h2b
    have F2 : Fr Xst s1 s2b := by rw [h2b]; exact fr_wI (by rw [h2]; exact fr_wI fr_rf rfl) rfl
    have r2 : ∀ a j, ¬ (38 ≤ a ∧ a ≤ 144) → rI s2b a j = rI s a j := fun a j p => by rw [F2.1 _ _ (xst_f (by omega)), F1.1 _ _ (xhC_f (by omega))]
    have N2 : NwW s2b w := fun k hk => by rw [r2 _ _ (by omega)]; exact n2 k hk
    have KR2 : KpR s2b κ := KpR_of (fun j _ => r2 _ _ (by omega)) n5
    have eA : rI s2b 39 (nI n).toNatClampNeg = nI (w n + n) := by rw [nI_clamp (by omega), h2b, rI_wI, if_pos ⟨rfl, rfl⟩]
    rw [eA]
    have h0 : ¬ nI (w 1) = 0 := nI_ne0 (by omega) (by omega)
    refine e_c12_cut (br_f (by rw [r2 _ _ (by omega), ht]; decide) (e_c12_finest (isIn_t (by rw [r2 _ _ (by omega), OR.2.2.2.1, wide, wide, L2, nI_toInt (by omega), nI_toInt (by omega)]; omega) (yes1 (br_f (by rw [N2 1 (by omega)]; exact h0) ⟨vp_in_nI (by omega) (by decide), br_f (by rw [nI_clamp (by omega), N2 n (by omega), nI_add]; exact nI_nlt (a := 999) g4 (by decide)) (w_keepsR (IHm_fr F2 (fun a j q => xst_f (fun z => by subst z; cases q)) H1) n3 N2 KR2 (fun s3 F3 H3 s4 h4 => ⟨vp_in_nI (by omega) (by decide), vp_in_nI (by omega) (by decide), fun s4b h4b => ⟨vp_in_nI (by omega) (by decide), ?_⟩⟩))⟩)))))
    have N3 : NwW s3 w := NwW_fr F3 (fun _ _ => xhR_f (by omega)) N2
    rw [N3 1 (by omega), show (1 : Int32) = nI 1 from rfl, pk_sub g3] at h4
    have N4 := NwW_1 N3 h4
    rw [nI_clamp (by omega), N4 n (by omega), uN_ne (by omega), nI_add] at h4b
    have F4 : Fr X200 s3 s4b := by
      rw [h4b]
      refine fr_wI (by rw [h4]; exact fr_wI fr_rf rfl) ?_
      unfold X200
      rw [Nat.ble_eq_true_of_le (show n ≤ 36 by omega)]
      rfl
    refine ⟨?_, act_stock I F1 F2 W2b F3 H3 F4 (NwW_1 N4 h4b) (uN_V (uN_V n3 (by omega) h24 (by omega)) g2 h24 g4)⟩
    rw [nI_clamp (by omega), h4b, rI_wI, if_pos ⟨rfl, rfl⟩]
  · have R : c12_cut v (fun r2 s2 => -1 = r2 ∧ Inv s2) (wI s 1 2 (rI s 1 2 + 1)) := by
      have hb : c12_refuses (nI 2) (fun r2 s2 => -1 = r2 ∧ Inv s2) (wI s 1 2 (rI s 1 2 + 1)) := refR (k := 2) (by decide) ⟨rfl, Inv_bump (IA_Inv I)⟩
      have r1 : ∀ a j, a ≠ 1 → rI (wI s 1 2 (rI s 1 2 + 1)) a j = rI s a j := fun a j q => by rw [rI_wI, if_neg (by omega)]
      refine e_c12_cut (br_c (fun _ => hb) (fun q => e_c12_finest (m_isIn (fun y => yes1 (br_c (fun _ => hb) (fun q2 => ?_))) (fun _ => no0 hb))))
      rw [r1 _ _ (by omega), OR.2.2.2.1, wide, wide, L2, nI_toInt (by omega)] at y
      have e : v = nI v.toInt.toNat := i_nI (by omega) (by omega)
      have hwn := n3.1 v.toInt.toNat
      rw [r1 _ _ (by omega), n2 1 (by omega)] at q2
      have hw1 : w 1 ≠ 0 := fun z => q2 (by rw [z]; rfl)
      rw [e]
      refine ⟨vp_in_nI (by omega) (by decide), br_c (fun _ => hb) (fun q3 => ?_)⟩
      rw [nI_clamp (by omega), r1 _ _ (by omega), n2 _ (by omega), nI_add, show (999 : Int32) = nI 999 from rfl, nI_ltI (by decide) (by omega)] at q3
      exact absurd ⟨v.toInt.toNat, by omega, by omega, by omega, by omega, e⟩ ok
    have hb : c11_refuse (nI 2) (fun r1 s1 => c12_cut v (fun r2 s2 => r1 = r2 ∧ Inv s2) s1) s := refC (k := 2) (by decide) R
    refine e_c11_cut (br_c (fun _ => hb) (fun q1 => ?_))
    by_cases hs : ∃ n, 1 ≤ n ∧ n ≤ fin ∧ v = nI n
    · obtain ⟨n, a1, a2, rfl⟩ := hs
      have hwn := n3.1 n
      refine sizC_t OC.2.2.2.1 h24 a1 a2 (yes1 (br_c (fun _ => hb) (fun q2 => ⟨vp_in_nI (by omega) (by decide), br_c (fun _ => hb) (fun q3 => ?_)⟩)))
      rw [show (2 : Int32) = nI 2 from rfl, nI_ltI (by omega) (by decide)] at q1
      rw [e391, show (1 : Int32) = nI 1 from rfl, nI_ltI (by omega) (by decide)] at q2
      rw [nI_clamp (by omega), n1.2.2.1 n (by omega) (by omega), nI_add, show (999 : Int32) = nI 999 from rfl, nI_ltI (by decide) (by omega)] at q3
      exact absurd ⟨n, by omega, a2, by omega, by omega, rfl⟩ ok
    · exact sizC_f OC.2.2.2.1 h24 hs (no0 hb)
