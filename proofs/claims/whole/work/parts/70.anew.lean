theorem op_anew {s : sT} (v x y : Int32) (I : Inv s) : two Inv (c11_anew v x y) (c12_anew v x y) s := by
  obtain ⟨fin, most, ppl, bk, mi, L, lc, cc, w, κ, I⟩ := I
  obtain ⟨⟨c1, -⟩, io, -, -, -, ik⟩ := id I
  obtain ⟨-, m1, m6, -, eM, -, -, OC, OR, -⟩ := id io
  have h24 := OC.1
  have II := IA_Inv I
  have L2 : (2 : Int64).toInt = 2 := rfl
  have hFC := OC.2.2.2.1
  have hFR := OR.2.2.2.1
  by_cases hs : ∃ X, 0 < X ∧ X < 2 ^ fin ∧ v = nI X
  · obtain ⟨X, X1, X2, rfl⟩ := hs
    have hf : 0 < fin := by
      rcases Nat.eq_zero_or_pos fin with q | q
      · rw [q, Nat.pow_zero] at X2
        omega
      · exact q
    obtain ⟨-, ht, h6⟩ := IO_told io (Or.inr hf)
    have X24 : X < 2 ^ 24 := Nat.lt_of_lt_of_le X2 (Nat.pow_le_pow_right (by decide) h24)
    have bX := mdS_le X 24
    refine e_c11_anew (setC_t hFC h24 X1 X2 (yes1 ?_))
    by_cases hy : ∃ k, k < 3 ∧ y = nI k
    · obtain ⟨k, hk, rfl⟩ := hy
      refine br_f (nI_pos (by omega)) (br_f (nI_nlt (a := 2) (by omega) (by decide)) (w_sumOfC X24 (prC_of c1) ?_))
      have R0 : ∀ {Q : Int32 → sT → Prop} {s1 : sT}, Fr XFF s s1 → (c12_isSet (nI X) (fun y3 u4 => (y3 = 0 → Q (-1 : Int32) u4) ∧ (¬ y3 = 0 → (0 < nI k → c12_isSet x (fun y5 u6 => (y5 = 0 → Q (-1 : Int32) u6) ∧ (¬ y5 = 0 → c12_anew_34 (nI X) x (nI k) Q u6)) u4) ∧ (¬ 0 < nI k → c12_anew_34 (nI X) x (nI k) Q u4))) s1) → c12_anew (nI X) x (nI k) Q s1 := fun F q => e_c12_anew (isIn_t (by rw [wide, L0, L2, nI_toInt (by omega)]; omega) (yes1 q))
      rcases Nat.eq_zero_or_pos k with k0 | k0
      · subst k0
        refine br_t rfl (w_shortC (U := mdS X 24 + mdS X 24) h24 m1 m6 hFC eM (prC_of c1) ik (by omega) (Or.inl (by rw [lN_add])) (fun s1 F1 K1 => sonC (shL_lt _ _ (mem24 h24) (by decide)) ?_))
        have I1 := IA_k I F1 K1
        refine R0 F1 (setR_t (by rw [F1.1 _ _ rfl]; exact hFR) h24 X1 X2 (yes1 (br_f (by decide) (e_c12_anew_34 (w_madeR X2 h24 (by rw [F1.1 _ _ rfl]; exact hFR) (br_t rfl ?_))))))
        exact w_shortR (U := mdS X 24 + mdS X 24) h24 m1 m6 (by rw [F1.1 _ _ rfl]; exact hFR) (by rw [F1.1 _ _ rfl]; exact ht) (by rw [F1.1 _ _ rfl]; exact h6) (by omega) (Or.inl (by rw [show (2 : Int64) = lN 2 from rfl, lN_mul, Nat.two_mul])) (fun s2 F2 => ⟨rfl, IA_Inv (IA_L I1 F2)⟩)
      · have kne : ¬ nI k = (0 : Int32) := nI_ne0 k0 (by omega)
        refine br_f kne ?_
        by_cases hx : ∃ Y, 0 < Y ∧ Y < 2 ^ fin ∧ x = nI Y
        · obtain ⟨Y, Y1, Y2, rfl⟩ := hx
          have Y24 : Y < 2 ^ 24 := Nat.lt_of_lt_of_le Y2 (Nat.pow_le_pow_right (by decide) h24)
          have bY := mdS_le Y 24
          refine setC_t hFC h24 Y1 Y2 (yes1 (w_sumOfC Y24 (prC_of c1) ?_))
          have kk : k = 1 ∨ k = 2 := by omega
          rcases kk with rfl | rfl
          · refine br_t rfl (w_shortC (U := mdS X 24 + mdS Y 24) h24 m1 m6 hFC eM (prC_of c1) ik (by omega) (Or.inl (by rw [lN_add])) (fun s1 F1 K1 => sonC (shL_lt _ _ (mem24 h24) (by decide)) ?_))
            have I1 := IA_k I F1 K1
            have f1 : rI s1 193 5 = nI fin := by rw [F1.1 _ _ rfl]; exact hFR
            refine R0 F1 (setR_t f1 h24 X1 X2 (yes1 (br_t (by decide) (setR_t f1 h24 Y1 Y2 (yes1 (e_c12_anew_34 (w_madeR X2 h24 f1 (br_f (by decide) (br_t rfl (w_madeR Y2 h24 f1 ?_))))))))))
            exact w_shortR (U := mdS X 24 + mdS Y 24) h24 m1 m6 f1 (by rw [F1.1 _ _ rfl]; exact ht) (by rw [F1.1 _ _ rfl]; exact h6) (by omega) (Or.inl (by rw [lN_add])) (fun s2 F2 => ⟨rfl, IA_Inv (IA_L I1 F2)⟩)
          · have hv : lN (mdS X 24) - lN (mdS Y 24) = lN (mdS X 24 - mdS Y 24) ∨ ((lN (mdS X 24) - lN (mdS Y 24)).toInt ≤ 0 ∧ mdS X 24 - mdS Y 24 = 0) := by
              rcases Nat.lt_or_ge (mdS X 24) (mdS Y 24) with q | q
              · refine Or.inr ⟨?_, by omega⟩
                rw [fb_subL (by rw [lN_t (by omega), lN_t (by omega)]; omega) (by rw [lN_t (by omega), lN_t (by omega)]; omega), lN_t (by omega), lN_t (by omega)]
                omega
              · exact Or.inl (lN_sub q)
            refine br_f (by decide) (w_shortC (U := mdS X 24 - mdS Y 24) h24 m1 m6 hFC eM (prC_of c1) ik (by omega) hv (fun s1 F1 K1 => sonC (shL_lt _ _ (mem24 h24) (by decide)) ?_))
            have I1 := IA_k I F1 K1
            have f1 : rI s1 193 5 = nI fin := by rw [F1.1 _ _ rfl]; exact hFR
            refine R0 F1 (setR_t f1 h24 X1 X2 (yes1 (br_t (by decide) (setR_t f1 h24 Y1 Y2 (yes1 (e_c12_anew_34 (w_madeR X2 h24 f1 (br_f (by decide) (br_f (by decide) (w_madeR Y2 h24 f1 ?_))))))))))
            exact w_shortR (U := mdS X 24 - mdS Y 24) h24 m1 m6 f1 (by rw [F1.1 _ _ rfl]; exact ht) (by rw [F1.1 _ _ rfl]; exact h6) (by omega) hv (fun s2 F2 => ⟨rfl, IA_Inv (IA_L I1 F2)⟩)
        · exact setC_f hFC h24 hx (no0 (R0 fr_rf (setR_t hFR h24 X1 X2 (yes1 (br_t (nI_lt (a := 0) k0 (by omega)) (setR_f hFR h24 hx (no0 ⟨rfl, II⟩)))))))
    · have hv := no_k hy
      have R : c12_anew (nI X) x y (fun r2 s2 => -1 = r2 ∧ Inv s2) s := e_c12_anew (isIn_f (by rw [wide, L0, L2]; omega) (no0 ⟨rfl, II⟩))
      refine br_c (fun _ => R) (fun z => br_t ?_ R)
      rw [fa_lt, l0] at z
      rw [fa_lt]
      show (2 : Int) < y.toInt
      omega
  · have R : c12_anew v x y (fun r2 s2 => -1 = r2 ∧ Inv s2) s := e_c12_anew (m_isIn (fun _ => yes1 (setR_f hFR h24 hs (no0 ⟨rfl, II⟩))) (fun _ => no0 ⟨rfl, II⟩))
    exact e_c11_anew (setC_f hFC h24 hs (no0 R))
-- what a set makes, in lowest terms
theorem gcd_step (x y : Nat) : Nat.gcd x y = Nat.gcd y (x % y) := by
  rw [Nat.gcd_comm x y, Nat.gcd_rec y x, Nat.gcd_comm]
theorem w_comR {Q : Int64 → sT → Prop} {s : sT} : ∀ n x y, y ≤ n → x < 2 ^ 45 → y < 2 ^ 45 → Q (lN (Nat.gcd x y)) s → c12_common_6 (lN x) (lN y) Q s
  | 0, x, y, hn, hx, hy, h => by
    have e : y = 0 := by omega
    subst e
    rw [Nat.gcd_zero_right] at h
    exact e_c12_common_6 (br_t rfl h)
  | n + 1, x, y, hn, hx, hy, h => by
    rcases Nat.eq_zero_or_pos y with q | q
    · subst q
      rw [Nat.gcd_zero_right] at h
      exact e_c12_common_6 (br_t rfl h)
    · have hne : ¬ lN y = (0 : Int64) := by
        rw [show (0 : Int64) = lN 0 from rfl, lN_eqB (by omega) (by decide)]
        omega
      have hm := Nat.mod_lt x q
      refine e_c12_common_6 (br_f hne ⟨hne, fun z hz => ?_⟩)
      rw [lN_rem (by omega) q (by omega)] at hz
      rw [hz]
      exact w_comR n y (x % y) (by omega) hy (by omega) (by rw [← gcd_step]; exact h)
theorem w_comC {Q : Int64 → sT → Prop} {s : sT} : ∀ j x y i, y < 2 ^ j → j ≤ 45 → x < 2 ^ 45 → i + 2 * j < 200 → Q (lN (Nat.gcd x y)) s → c1_commonDivisor_9 (lN x) (lN y) (nI i) Q s
  | 0, x, y, i, hy, hj, hx, hi, h => by
    have e : y = 0 := by rw [Nat.pow_zero] at hy; omega
    subst e
    rw [Nat.gcd_zero_right] at h
    exact e_c1_commonDivisor_9 (br_t (nI_lt (b := 200) (by omega) (by decide)) (br_f (by decide) h))
  | j + 1, x, y, i, hy, hj, hx, hi, h => by
    have hy45 : y < 2 ^ 45 := Nat.lt_of_lt_of_le hy (Nat.pow_le_pow_right (by decide) hj)
    refine e_c1_commonDivisor_9 (br_t (nI_lt (b := 200) (by omega) (by decide)) ?_)
    rcases Nat.eq_zero_or_pos y with q | q
    · subst q
      rw [Nat.gcd_zero_right] at h
      exact br_f (by decide) h
    · have hne : ¬ lN y = (0 : Int64) := by
        rw [show (0 : Int64) = lN 0 from rfl, lN_eqB (by omega) (by decide)]
        omega
      have hm := Nat.mod_lt x q
      refine br_t ((lN_ltB (a := 0) (by decide) (by omega)).2 q) ⟨hne, fun z hz => ?_⟩
      rw [lN_rem (by omega) q (by omega)] at hz
      rw [hz, nI_1]
      rw [gcd_step] at h
      generalize x % y = r at *
      refine e_c1_commonDivisor_9 (br_t (nI_lt (b := 200) (by omega) (by decide)) ?_)
      rcases Nat.eq_zero_or_pos r with q2 | q2
      · subst q2
        rw [Nat.gcd_zero_right] at h
        exact br_f (by decide) h
      · have hne2 : ¬ lN r = (0 : Int64) := by
          rw [show (0 : Int64) = lN 0 from rfl, lN_eqB (by omega) (by decide)]
          omega
        have hm2 := Nat.mod_lt y q2
        refine br_t ((lN_ltB (a := 0) (by decide) (by omega)).2 q2) ⟨hne2, fun t ht => ?_⟩
        rw [lN_rem (by omega) q2 (by omega)] at ht
        rw [ht, nI_1]
        have h1 : 2 * (y % r) < y := by
          have e := Nat.div_add_mod y r
          have d : 1 ≤ y / r := Nat.div_pos (by omega) q2
          have d2 : r * 1 ≤ r * (y / r) := Nat.mul_le_mul_left _ d
          omega
        exact w_comC j r (y % r) (i + 1 + 1) (by rw [Nat.pow_succ] at hy; omega) (by omega) (by omega) (by omega) (by rw [← gcd_step]; exact h)
theorem mdS_pos {x : Nat} (h0 : 0 < x) (hx : x < 2 ^ 24) : 0 < mdS x 24 := by
  obtain ⟨i, hi⟩ := Nat.exists_testBit_of_ne_zero (Nat.pos_iff_ne_zero.1 h0)
  have hi24 : i < 24 := by
    rcases Nat.lt_or_ge i 24 with q | q
    · exact q
    · rw [t_lt hx q] at hi; cases hi
  have key : ∀ n, i < n → n ≤ 24 → 0 < mdS x n := by
    intro n
    induction n with
    | zero => intro h; omega
    | succ n ih =>
      intro h h2
      unfold mdS
      rcases Nat.lt_or_ge i n with q | q
      · have := ih q (by omega)
        omega
      · have e : i = n := by omega
        subst e
        rw [if_pos hi]
        have := prt_pos (n := i + 1) (by omega) (by omega)
        omega
  exact key 24 hi24 (Nat.le_refl _)
theorem op_makes {s : sT} (v y : Int32) (I : Inv s) : twoJ Inv (c11_makes v y) (c12_makes v y) s := by
  obtain ⟨fin, most, ppl, bk, mi, L, lc, cc, w, κ, I⟩ := I
  obtain ⟨⟨c1, -⟩, io, -, -, -, ik⟩ := id I
  obtain ⟨-, m1, m6, -, eM, -, -, OC, OR, -⟩ := id io
  have h24 := OC.1
  have II := IA_Inv I
  have hFC := OC.2.2.2.1
  have hFR := OR.2.2.2.1
  by_cases hs : ∃ X, 0 < X ∧ X < 2 ^ fin ∧ v = nI X
  · obtain ⟨X, X1, X2, rfl⟩ := hs
    have X24 : X < 2 ^ 24 := Nat.lt_of_lt_of_le X2 (Nat.pow_le_pow_right (by decide) h24)
    have bX := mdS_le X 24
    have pX := mdS_pos X1 X24
    refine e_c11_makes (setC_t hFC h24 X1 X2 (yes1 ?_))
    by_cases hy : ∃ k, k < 2 ∧ y = nI k
    · obtain ⟨k, hk, rfl⟩ := hy
      have hg : 0 < Nat.gcd (mdS X 24) 5354228880 := Nat.gcd_pos_of_pos_left _ pX
      have hgle : Nat.gcd (mdS X 24) 5354228880 ≤ 5354228880 := Nat.gcd_le_right _ (by decide)
      have gne : ¬ lN (Nat.gcd (mdS X 24) 5354228880) = (0 : Int64) := by
        rw [show (0 : Int64) = lN 0 from rfl, lN_eqB (by omega) (by decide)]
        omega
      have R : ∀ r : Int64, r = (if k = 0 then lN (mdS X 24) / lN (Nat.gcd (mdS X 24) 5354228880) else (5354228880 : Int64) / lN (Nat.gcd (mdS X 24) 5354228880)) → c12_makes (nI X) (nI k) (fun r2 s2 => r = r2 ∧ Inv s2) s := fun r hr => by
        refine e_c12_makes (setR_t hFR h24 X1 X2 (yes1 (isIn_t (by rw [wide, L0, L1, nI_toInt (by omega)]; omega) (yes1 (w_madeR X2 h24 hFR (e_c12_common (w_comR 5354228880 _ 5354228880 (Nat.le_refl _) (by omega) (by decide) ?_)))))))
        rcases Nat.eq_zero_or_pos k with q | q
        · subst q
          exact br_t rfl ⟨gne, hr, II⟩
        · rw [if_neg (by omega)] at hr
          exact br_f (nI_ne0 q (by omega)) ⟨gne, hr, II⟩
      refine br_f (nI_pos (by omega)) (br_f (nI_nlt (a := 1) (by omega) (by decide)) (w_sumOfC X24 (prC_of c1) (e_c1_commonDivisor (w_comC 33 _ 5354228880 0 (by decide) (by decide) (by omega) (by decide) (br_t ((lN_ltB (a := 0) (by decide) (by omega)).2 hg) ?_)))))
      rcases Nat.eq_zero_or_pos k with q | q
      · subst q
        exact br_t rfl ⟨gne, R _ rfl⟩
      · exact br_f (nI_ne0 q (by omega)) ⟨gne, R _ (by rw [if_neg (by omega)])⟩
    · have hv := no_k hy
      have R : c12_makes (nI X) y (fun r2 s2 => (-1000000000000000 : Int64) = r2 ∧ Inv s2) s := e_c12_makes (setR_t hFR h24 X1 X2 (yes1 (isIn_f (by rw [wide, L0, L1]; omega) (no0 ⟨rfl, II⟩))))
      refine br_c (fun _ => R) (fun z => br_t ?_ R)
      rw [fa_lt, l0] at z
      rw [fa_lt, l1]
      omega
  · exact e_c11_makes (setC_f hFC h24 hs (no0 (e_c12_makes (setR_f hFR h24 hs (no0 ⟨rfl, II⟩)))))
