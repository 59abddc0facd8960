theorem w_mnC2 {x U fin : Nat} {Q : Int32 → sT → Prop} {s0 : sT} (hf : fin ≤ 24) (hx : x < 2 ^ 24) (hU : U < 2 ^ 45) (hF : rI s0 21 0 = nI fin) (hP : prC s0) : ∀ m (z : m3) s, m ≤ fin → z.1 + 24 * m < 1000 → Fr XM s0 s → fGo s z → (∀ s', Fr XM s0 s' → fGo s' (mOut x U fin m z) → Q (nI (mOut x U fin m z).1) s') → c1_mendings_30 (nI x) (lN U) (nI z.1) (lN (mdS x 24)) (nI (fin + 1 - m)) Q s
  | 0, z, s, hm, hz, F, G, h => e_c1_mendings_30 (br_t (by rw [F.1 _ _ rfl, hF]; exact nI_lt (by omega) (by omega)) (h s F G))
  | m + 1, z, s, hm, hz, F, G, h => by
    have en : fin + 1 - (m + 1) = fin - m := by omega
    have en2 : fin - m + 1 = fin + 1 - m := by omega
    unfold mOut at h
    rw [en]
    refine e_c1_mendings_30 (br_f (by rw [F.1 _ _ rfl, hF]; exact nI_nlt (by omega) (by omega)) ?_)
    have hl := mIn_le (x := x) (U := U) (g := fin - m) (fin := fin) fin z
    have := w_mnC1 (x := x) (U := U) (g := fin - m) (fin := fin) (Q := Q) (X30 := fun v1 v2 v4 v5 v7 s => c1_mendings_30 v1 v2 v4 v5 v7 Q s) hf hx hU (by omega) (by omega) hF hP fin z s (Nat.le_refl _) (by omega) F G (fun s1 F1 G1 => by
      rw [en2]
      exact w_mnC2 hf hx hU hF hP m _ s1 (by omega) (by omega) F1 G1 h)
    rw [show fin + 1 - fin = 1 by omega] at this
    exact this
theorem w_mnR1 {x U g fin : Nat} {k : Int32} {Q : Int32 → sT → Prop} {X91 : Int32 → Int32 → Int64 → Int64 → Int32 → Int32 → Int32 → Int32 → Int32 → sT → Prop} {s : sT} (hf : fin ≤ 24) (hx : x < 2 ^ 24) (hU : U < 2 ^ 45) (g1 : 1 ≤ g) (g2 : g ≤ fin) (hF : rI s 193 5 = nI fin) (ht : rI s 162 49 = 1) : ∀ m (z : m3), m ≤ fin → z.1 + m < 2000 → X91 (nI x) k (lN U) (lN (mdS x 24)) 1 (nI (mIn x U g fin m z).1) (mIn x U g fin m z).2.1 (mIn x U g fin m z).2.2 (nI (g + 1)) s → c12_mend_115 (nI x) k (lN U) (lN (mdS x 24)) 1 (nI z.1) z.2.1 z.2.2 (nI g) (nI (fin + 1 - m)) Q X91 s
  | 0, z, hm, hz, h => by
    refine e_c12_mend_115 (e_c12_finest (br_t (by rw [hF]; exact nI_lt (by omega) (by omega)) ?_))
    rw [nI_1]
    exact h
  | m + 1, z, hm, hz, h => by
    have en : fin + 1 - (m + 1) = fin - m := by omega
    have en2 : fin - m + 1 = fin + 1 - m := by omega
    unfold mIn at h
    have skip : mCond x U g (fin - m) = false → c12_mend_115 (nI x) k (lN U) (lN (mdS x 24)) 1 (nI z.1) z.2.1 z.2.2 (nI g) (nI (fin + 1 - m)) Q X91 s := fun q => by
      have e : mSt x U g (fin - m) z = z := by
        unfold mSt
        rw [if_neg (by rw [q]; decide)]
      rw [e] at h
      exact w_mnR1 hf hx hU g1 g2 hF ht m z (by omega) (by omega) h
    obtain ⟨a1, a2⟩ := div24 (n := g) g1 (by omega)
    obtain ⟨b1, b2⟩ := div24 (n := fin - m) (by omega) (by omega)
    refine e_c12_mend_115 (e_c12_finest (br_f (by rw [hF]; exact nI_nlt (by omega) (by omega)) ?_))
    rw [en]
    refine e_c12_isOf ?_
    rw [show (1 : Int32) = nI 1 from rfl, pk_sub g1, show nI 1 = (1 : Int32) from rfl, bit_1 (by omega) (by omega)]
    refine br_c (fun q => yes1 (e_c12_isOf ?_)) (fun q => no0 ?_)
    · rw [show (1 : Int32) = nI 1 from rfl, pk_sub (by omega : 1 ≤ fin - m), show nI 1 = (1 : Int32) from rfl, bit_1 (by omega) (by omega)]
      refine br_c (fun q2 => yes1 ?_) (fun q2 => no0 ⟨a1, b1, ?_⟩)
      · rw [nI_1, en2]
        refine skip ?_
        unfold mCond
        rw [q2]
        simp
      · rw [a2, b2, mCond_lN hx g1 (by omega) hU q, nI_1, nI_1, en2]
        have q2' : x.testBit (fin - m - 1) = false := Bool.eq_false_iff.2 q2
        refine br_c (fun q3 => ?_) (fun q3 => skip ?_)
        · have e : mSt x U g (fin - m) z = (z.1 + 1, if z.1 = 0 then nI g else z.2.1, if z.1 = 0 then nI (fin - m) else z.2.2) := by
            unfold mSt mCond
            rw [q, q2', q3]
            simp
          rw [e] at h
          refine br_c (fun q4 => ?_) (fun q4 => ?_)
          · have z0 : z.1 = 0 := by
              rw [show (0 : Int32) = nI 0 from rfl, nI_eq (by omega) (by decide)] at q4
              exact q4
            rw [if_pos z0, if_pos z0] at h
            exact w_mnR1 hf hx hU g1 g2 hF ht m (z.1 + 1, nI g, nI (fin - m)) (by omega) (by show z.1 + 1 + m < 2000; omega) h
          · have z0 : ¬ z.1 = 0 := fun y => q4 (by rw [y]; rfl)
            rw [if_neg z0, if_neg z0] at h
            exact w_mnR1 hf hx hU g1 g2 hF ht m (z.1 + 1, z.2.1, z.2.2) (by omega) (by show z.1 + 1 + m < 2000; omega) h
        · unfold mCond
          rw [q, q2', Bool.eq_false_iff.2 (fun y => q3 (Nat.eq_of_beq_eq_true y))]
          rfl
    · rw [nI_1, en2]
      refine skip ?_
      unfold mCond
      rw [Bool.eq_false_iff.2 q]
      rfl
def mRes (k : Int32) (z : m3) : Int32 := if k = 0 then nI z.1 else if k = 1 then z.2.1 else z.2.2
theorem mRes_R {k : Int32} {z : m3} {Q : Int32 → sT → Prop} {s : sT} (h : Q (mRes k z) s) : (k = 0 → Q (nI z.1) s) ∧ (¬ k = 0 → (k = (1 : Int32) → Q z.2.1 s) ∧ (¬ k = (1 : Int32) → Q z.2.2 s)) := by
  unfold mRes at h
  refine br_c (fun q => ?_) (fun q => br_c (fun q2 => ?_) (fun q2 => ?_))
  · rw [if_pos q] at h; exact h
  · rw [if_neg q, if_pos q2] at h; exact h
  · rw [if_neg q, if_neg q2] at h; exact h
theorem w_mnR2 {x U fin : Nat} {k : Int32} {Q : Int32 → sT → Prop} {s : sT} (hf : fin ≤ 24) (hx : x < 2 ^ 24) (hU : U < 2 ^ 45) (U0 : 0 < U) (hF : rI s 193 5 = nI fin) (ht : rI s 162 49 = 1) : ∀ m (z : m3), m ≤ fin → z.1 + 24 * m < 1000 → Q (mRes k (mOut x U fin m z)) s → c12_mend_91 (nI x) k (lN U) (lN (mdS x 24)) 1 (nI z.1) z.2.1 z.2.2 (nI (fin + 1 - m)) Q s
  | 0, z, hm, hz, h => e_c12_mend_91 (e_c12_finest (br_t (by rw [hF]; exact nI_lt (by omega) (by omega)) (mRes_R h)))
  | m + 1, z, hm, hz, h => by
    have en : fin + 1 - (m + 1) = fin - m := by omega
    have en2 : fin - m + 1 = fin + 1 - m := by omega
    unfold mOut at h
    rw [en]
    refine e_c12_mend_91 (e_c12_finest (br_f (by rw [hF]; exact nI_nlt (by omega) (by omega)) (yes1 (br_t ((lN_ltB (a := 0) (by decide) (by omega)).2 U0) ?_))))
    have hl := mIn_le (x := x) (U := U) (g := fin - m) (fin := fin) fin z
    have := w_mnR1 (x := x) (U := U) (g := fin - m) (fin := fin) (k := k) (Q := Q) (X91 := fun v3 v4 v5 v7 v9 v10 v11 v12 v13 s => c12_mend_91 v3 v4 v5 v7 v9 v10 v11 v12 v13 Q s) (s := s) hf hx hU (by omega) (by omega) hF ht fin z (Nat.le_refl _) (by omega) (by
      rw [en2]
      exact w_mnR2 hf hx hU U0 hF ht m _ (by omega) (by omega) h)
    rw [show fin + 1 - fin = 1 by omega] at this
    exact this
theorem mIn_z {x U g fin : Nat} : ∀ m (z : m3), (z.1 = 0 → z = (0, -1, -1)) → ((mIn x U g fin m z).1 = 0 → mIn x U g fin m z = (0, -1, -1))
  | 0, z, h => h
  | m + 1, z, h => by
    unfold mIn
    refine mIn_z m _ ?_
    unfold mSt
    split
    · intro q
      exact absurd q (Nat.succ_ne_zero _)
    · exact h
theorem mOut_z {x U fin : Nat} : ∀ m (z : m3), (z.1 = 0 → z = (0, -1, -1)) → ((mOut x U fin m z).1 = 0 → mOut x U fin m z = (0, -1, -1))
  | 0, z, h => h
  | m + 1, z, h => mOut_z m _ (mIn_z fin z h)
theorem mOut_le {x U fin : Nat} : ∀ m (z : m3), (mOut x U fin m z).1 ≤ z.1 + m * fin
  | 0, z => by
    show z.1 ≤ _
    omega
  | m + 1, z => by
    have h1 := mIn_le (x := x) (U := U) (g := fin - m) (fin := fin) fin z
    have h2 := mOut_le (x := x) (U := U) (fin := fin) m (mIn x U (fin - m) fin fin z)
    have e : (m + 1) * fin = m * fin + fin := Nat.succ_mul m fin
    unfold mOut
    omega
theorem mIn_0 {x g fin : Nat} (hf : fin ≤ 24) : ∀ m (z : m3), m ≤ fin → mIn x 0 g fin m z = z
  | 0, z, _ => rfl
  | m + 1, z, hm => by
    have hp := prt_pos (n := fin - m) (by omega) (by omega)
    have e : mSt x 0 g (fin - m) z = z := by
      have : Nat.beq (mdS x 24 - prt g + prt (fin - m)) 0 = false := Bool.eq_false_iff.2 (fun y => by have := Nat.eq_of_beq_eq_true y; omega)
      unfold mSt mCond
      rw [this]
      simp
    unfold mIn
    rw [e]
    exact mIn_0 hf m z (by omega)
theorem mOut_0 {x fin : Nat} (hf : fin ≤ 24) : ∀ m (z : m3), mOut x 0 fin m z = z
  | 0, z => rfl
  | m + 1, z => by
    unfold mOut
    rw [mIn_0 hf fin z (Nat.le_refl _)]
    exact mOut_0 hf m z
theorem w_mnR0 {x U fin : Nat} {k : Int32} {Q : Int32 → sT → Prop} {s : sT} (hf : fin ≤ 24) (f1 : 1 ≤ fin) (hx : x < 2 ^ 24) (hU : U < 2 ^ 45) (hF : rI s 193 5 = nI fin) (ht : rI s 162 49 = 1) (h : Q (mRes k (mOut x U fin fin (0, -1, -1))) s) : c12_mend_91 (nI x) k (lN U) (lN (mdS x 24)) 1 0 (-1) (-1) 1 Q s := by
  rcases Nat.eq_zero_or_pos U with q | q
  · subst q
    rw [mOut_0 hf] at h
    exact e_c12_mend_91 (e_c12_finest (br_f (by rw [hF]; exact nI_nlt (b := 1) (by omega) (by omega)) (yes1 (br_f (by decide) (mRes_R h)))))
  · have := w_mnR2 (k := k) (Q := Q) (s := s) hf hx hU q hF ht fin (0, -1, -1) (Nat.le_refl _) (by show 0 + 24 * fin < 1000; omega) h
    rw [show fin + 1 - fin = 1 by omega] at this
    exact this
theorem xz_M {a j : Nat} (h : XM a j = true) : Xz a j = true := by
  unfold XM at h
  unfold Xz
  rw [h]
  simp
theorem op_mend {s : sT} (v x y k : Int32) (I : Inv s) : two Inv (c11_mend v x y k) (c12_mend v x y k) s := by
  obtain ⟨fin, most, ppl, bk, mi, L, lc, cc, w, κ, I⟩ := I
  obtain ⟨⟨c1, -⟩, io, -, -, -, ik⟩ := id I
  obtain ⟨-, m1, m6, -, eM, -, -, OC, OR, -⟩ := id io
  have h24 := OC.1
  have II := IA_Inv I
  have hFC := OC.2.2.2.1
  have hFR := OR.2.2.2.1
  by_cases hn : okS fin v x
  · obtain ⟨hf, a, b, a1, a2, b1, b2, rfl, rfl⟩ := hn
    obtain ⟨-, ht, h6⟩ := IO_told io (by omega)
    have hu := un_lt (b := b) a2
    by_cases hs : ∃ X, 0 < X ∧ X < 2 ^ fin ∧ y = nI X
    · obtain ⟨X, X1, X2, rfl⟩ := hs
      have X24 : X < 2 ^ 24 := Nat.lt_of_lt_of_le X2 (Nat.pow_le_pow_right (by decide) h24)
      have hpc := pcH_le 24 X
      have hmd := mdS_le X 24
      by_cases hk : k.toInt < 0 ∨ (2 : Int) < k.toInt
      · have R : ∀ r : Int32, r = -1 → c12_mend (nI a) (nI b) (nI X) k (fun r2 s2 => r = r2 ∧ Inv s2) s := fun r hr => e_c12_mend (shR_t ht a1 a2 b1 b2 (yes1 (setR_t hFR h24 X1 X2 (yes1 (isIn_f (by rw [wide]; show ¬ ((0 : Int) ≤ _ ∧ _ ≤ (2 : Int)); omega) (no0 ⟨hr, II⟩))))))
        refine e_c11_mend (shC_t hFC h24 hf a1 a2 b1 b2 (yes1 (setC_t hFC h24 X1 X2 (yes1 ?_))))
        rw [fa_lt, fa_lt]
        exact br_c (fun q => R _ rfl) (fun q => br_t (by show (2 : Int) < _; have : (0 : Int32).toInt = 0 := rfl; omega) (R _ rfl))
      · have R : ∀ (s1 : sT) (r : Int32), Fr XM s s1 → r = (if most < pcH 24 X then (if k = 0 then 0 else -1) else if mdS X 24 = un a b then -1 else mRes k (mOut X (un a b) fin fin (0, -1, -1))) → c12_mend (nI a) (nI b) (nI X) k (fun r2 s2 => r = r2 ∧ Inv s2) s1 := fun s1 r F hr => by
          have I1 : Inv s1 := IA_Inv (IA_y I F (fun a j q => xz_M q) (fun _ => rfl) rfl (fun a j q => by rcases q with rfl | rfl <;> rfl))
          have hF1 : rI s1 193 5 = nI fin := by rw [F.1 _ _ rfl]; exact hFR
          have ht1 : rI s1 162 49 = 1 := by rw [F.1 _ _ rfl]; exact ht
          refine e_c12_mend (shR_t ht1 a1 a2 b1 b2 (yes1 (setR_t hF1 h24 X1 X2 (yes1 (isIn_t (by rw [wide]; show ((0 : Int) ≤ _ ∧ _ ≤ (2 : Int)); omega) (yes1 (w_partsOf a2 b1 b2 (w_madeR X2 h24 hF1 (w_bits X24 (mpR ht1 (by rw [F.1 _ _ rfl]; exact h6) ?_)))))))))) 
          rw [nI_ltI (by omega) (by omega), lN_eqB (by omega) (by omega)]
          refine br_c (fun q => br_t rfl ?_) (fun q => br_f (by decide) (br_c (fun q2 => ?_) (fun q2 => ?_)))
          · rw [if_pos q] at hr
            refine e_c12_mend_91 (e_c12_finest (br_f (by rw [hF1]; exact nI_nlt (b := 1) (by omega) (by omega)) (br_t rfl ?_)))
            refine br_c (fun q3 => ?_) (fun q3 => ?_)
            · rw [if_pos q3] at hr; exact ⟨hr, I1⟩
            · rw [if_neg q3] at hr; exact br_c (fun _ => ⟨hr, I1⟩) (fun _ => ⟨hr, I1⟩)
          · rw [if_neg q, if_pos q2] at hr
            exact ⟨hr, I1⟩
          · rw [if_neg q, if_neg q2] at hr
            exact w_mnR0 h24 hf X24 hu hF1 ht1 ⟨hr, I1⟩
        refine e_c11_mend (shC_t hFC h24 hf a1 a2 b1 b2 (yes1 (setC_t hFC h24 X1 X2 (yes1 ?_))))
        rw [fa_lt, fa_lt]
        refine br_f (by show ¬ _ < (0 : Int); omega) (br_f (by show ¬ (2 : Int) < _; omega) (w_units a2 b1 b2 (e_c1_isWriting (w_bitC X24 ?_))))
        rw [eM, nI_ltI (by omega) (by omega)]
        refine br_c (fun q => no0 (e_c1_mendings (w_bitC X24 ?_))) (fun q => w_sumOfC X24 (prC_of c1) ?_)
        · rw [eM, nI_ltI (by omega) (by omega)]
          refine br_t q (br_c (fun q2 => R s _ fr_rf ?_) (fun q2 => br_t rfl (R s _ fr_rf ?_)))
          · rw [if_pos q, if_pos q2]
          · rw [if_pos q, if_neg q2]
        · rw [lN_eqB (by omega) (by omega)]
          refine br_c (fun q2 => yes1 (R s _ fr_rf ?_)) (fun q2 => no0 (e_c1_mendings (w_bitC X24 ?_)))
          · rw [if_neg q, if_pos q2]
          · rw [eM, nI_ltI (by omega) (by omega)]
            refine br_f q (w_sumOfC X24 (prC_of c1) ?_)
            have hz := mOut_z (x := X) (U := un a b) (fin := fin) fin (0, -1, -1) (fun _ => rfl)
            have hl := mOut_le (x := X) (U := un a b) (fin := fin) fin (0, -1, -1)
            have hff : fin * fin ≤ 24 * 24 := Nat.mul_le_mul h24 h24
            have := w_mnC2 (x := X) (U := un a b) (fin := fin) (Q := fun y9 u10 => (k = 0 → c12_mend (nI a) (nI b) (nI X) k (fun r2 s2 => y9 = r2 ∧ Inv s2) u10) ∧ (¬ k = 0 → (y9 = 0 → c12_mend (nI a) (nI b) (nI X) k (fun r2 s2 => -1 = r2 ∧ Inv s2) u10) ∧ (¬ y9 = 0 → (k = (1 : Int32) → c12_mend (nI a) (nI b) (nI X) k (fun r2 s2 => rI u10 35 4 = r2 ∧ Inv s2) u10) ∧ (¬ k = (1 : Int32) → c12_mend (nI a) (nI b) (nI X) k (fun r2 s2 => rI u10 35 5 = r2 ∧ Inv s2) u10)))) (s0 := s) h24 X24 hu hFC (prC_of c1) fin (0, -1, -1) s (Nat.le_refl _) (by show 0 + 24 * fin < 1000; omega) fr_rf (fun z => absurd z (Nat.lt_irrefl 0)) (fun s1 F1 G1 => ?_)
            · rw [show fin + 1 - fin = 1 by omega] at this
              exact this
            · generalize mOut X (un a b) fin fin (0, -1, -1) = z at hz hl G1 R
              dsimp only at hl
              have hz0 : nI z.1 = (0 : Int32) ↔ z.1 = 0 := by
                rw [show (0 : Int32) = nI 0 from rfl]
                exact nI_eq (by omega) (by decide)
              refine br_c (fun q3 => R s1 _ F1 ?_) (fun q3 => br_c (fun q4 => R s1 _ F1 ?_) (fun q4 => br_c (fun q5 => R s1 _ F1 ?_) (fun q5 => R s1 _ F1 ?_)))
              · rw [if_neg q, if_neg q2, mRes, if_pos q3]
              · rw [if_neg q, if_neg q2, mRes, if_neg q3, hz (hz0.1 q4)]
                split <;> rfl
              · rw [if_neg q, if_neg q2, mRes, if_neg q3, if_pos q5, (G1 (Nat.pos_of_ne_zero (fun y => q4 (hz0.2 y)))).1]
              · rw [if_neg q, if_neg q2, mRes, if_neg q3, if_neg q5, (G1 (Nat.pos_of_ne_zero (fun y => q4 (hz0.2 y)))).2]
    · exact e_c11_mend (shC_t hFC h24 hf a1 a2 b1 b2 (yes1 (setC_f hFC h24 hs (no0 (e_c12_mend (shR_t ht a1 a2 b1 b2 (yes1 (setR_f hFR h24 hs (no0 ⟨rfl, II⟩)))))))))
  · exact e_c11_mend (shC_f hFC h24 hn (no0 (e_c12_mend (shR_f (fun z => (IO_not io z).2.2) hn (no0 ⟨rfl, II⟩)))))
