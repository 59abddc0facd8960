theorem lN_t {n : Nat} (h : n < 9223372036854775808) : (lN n).toInt = n := Int64.toInt_ofNat_of_lt h
theorem lN_div {a b : Nat} (ha : a < 9223372036854775808) (hb : 0 < b) (hb2 : b < 9223372036854775808) : lN a / lN b = lN (a / b) := by
  have h1 : a / b ≤ a := Nat.div_le_self _ _
  rw [fa_eq64, lN_t (by omega)]
  have hne : lN b ≠ -1 := fun q => by
    have := congrArg Int64.toInt q
    rw [lN_t hb2] at this
    have e : ((-1 : Int64)).toInt = -1 := rfl
    omega
  rw [Int64.toInt_div_of_ne_right _ _ hne, lN_t ha, lN_t hb2]
  rfl
theorem lN_rem {a b : Nat} (ha : a < 9223372036854775808) (hb : 0 < b) (hb2 : b < 9223372036854775808) : lN a - lN a / lN b * lN b = lN (a % b) := by
  rw [lN_div ha hb hb2, lN_mul, lN_sub (Nat.div_mul_le_self a b)]
  congr 1
  have := Nat.div_add_mod a b
  rw [Nat.mul_comm] at this
  omega
theorem letC {k : Nat} {Q : Int32 → sT → Prop} {s : sT} (hk : k < 6) : ∀ m V, k + m < 6 → V < 2147483648 → Q (nI (V / 27 ^ m % 27)) s → c11_letter_33 (nI k) (nI V) (nI (k + m)) Q s
  | 0, V, e, hV, h => by
    refine e_c11_letter_33 (br_f (nI_nlt (Nat.le_refl _) (by omega)) ?_)
    rw [show (27 : Int32) = nI 27 from rfl, pk_rem (by omega) (by decide) (by decide)]
    rw [Nat.pow_zero, Nat.div_one] at h
    exact h
  | m + 1, V, e, hV, h => by
    refine e_c11_letter_33 (br_t (nI_lt (by omega) (by omega)) (fun x hx => ?_))
    rw [show (27 : Int32) = nI 27 from rfl, pk_div (by omega) (by decide) (by decide)] at hx
    subst hx
    rw [show k + (m + 1) = k + m + 1 from rfl, pk_m1]
    have hb : V / 27 ≤ V := Nat.div_le_self _ _
    have e2 : V / 27 / 27 ^ m = V / 27 ^ (m + 1) := by rw [Nat.div_div_eq_div_mul, Nat.pow_succ, Nat.mul_comm]
    exact letC hk m (V / 27) (by omega) (by omega) (by rw [e2]; exact h)
theorem letR2 {k : Nat} {Q : Int32 → sT → Prop} {s : sT} (hk : k < 6) : ∀ m V, k + m < 6 → V < 2147483648 → Q (nI (V / 27 ^ m % 27)) s → c12_letter_73 (nI k) (lN V) (nI (k + m)) Q s
  | 0, V, e, hV, h => by
    refine e_c12_letter_73 (br_f (nI_nlt (Nat.le_refl _) (by omega)) ?_)
    rw [show (27 : Int64) = lN 27 from rfl, lN_rem (by omega) (by decide) (by decide)]
    rw [Nat.pow_zero, Nat.div_one] at h
    rw [lN_i]
    exact h
  | m + 1, V, e, hV, h => by
    refine e_c12_letter_73 (br_t (nI_lt (by omega) (by omega)) (fun x hx => ?_))
    rw [show (27 : Int64) = lN 27 from rfl, lN_div (by omega) (by decide) (by decide)] at hx
    subst hx
    rw [show k + (m + 1) = k + m + 1 from rfl, pk_m1]
    have hb : V / 27 ≤ V := Nat.div_le_self _ _
    have e2 : V / 27 / 27 ^ m = V / 27 ^ (m + 1) := by rw [Nat.div_div_eq_div_mul, Nat.pow_succ, Nat.mul_comm]
    exact letR2 hk m (V / 27) (by omega) (by omega) (by rw [e2]; exact h)
theorem letR1 {k V : Nat} {Q : Int32 → sT → Prop} {s : sT} (hk : k < 6) (hV : V < 2147483648) : ∀ m n z, (m = 0 → z = 0) → (1 ≤ m → 27 ^ (m - 1) ≤ z ∧ z < 27 ^ m) → n + m ≤ 6 → z < 2147483648 → Q (nI (if k < n + m then V / 27 ^ (n + m - 1 - k) % 27 else 0)) s → c12_letter_38 (nI k) (lN V) (nI n) (lN z) Q s
  | 0, n, z, h0, h1, hn, hz, h => by
    rw [h0 rfl]
    refine e_c12_letter_38 (br_f (by decide) (br_c (fun q x hx => ?_) (fun q => ?_)))
    · rw [nI_ltI (by omega) (by omega)] at q
      rw [show (1 : Int32) = nI 1 from rfl, pk_sub (by omega)] at hx
      subst hx
      rw [if_pos (by omega)] at h
      have := letR2 (k := k) (Q := Q) (s := s) hk (n - 1 - k) V (by omega) hV h
      rw [show k + (n - 1 - k) = n - 1 by omega] at this
      exact this
    · rw [nI_ltI (by omega) (by omega)] at q
      rw [if_neg (by omega)] at h
      exact h
  | m + 1, n, z, h0, h1, hn, hz, h => by
    obtain ⟨a, b⟩ := h1 (by omega)
    have hz1 : 0 < z := Nat.lt_of_lt_of_le (Nat.pow_pos (by decide)) a
    refine e_c12_letter_38 (br_t ((lN_lt (a := 0) (by decide) (by omega)).2 hz1) (fun x hx => ?_))
    rw [show (27 : Int64) = lN 27 from rfl, lN_div (by omega) (by decide) (by decide)] at hx
    subst hx
    rw [nI_1]
    have hb : z / 27 ≤ z := Nat.div_le_self _ _
    refine letR1 hk hV m (n + 1) (z / 27) (fun e => ?_) (fun e => ?_) (by omega) (by omega) (by rw [show n + 1 + m = n + (m + 1) by omega]; exact h)
    · subst e
      simp at b
      omega
    · refine ⟨?_, ?_⟩
      · rw [Nat.le_div_iff_mul_le (by decide), ← Nat.pow_succ]
        have e3 : (m - 1).succ = m + 1 - 1 := by omega
        rw [e3]
        exact a
      · rw [Nat.div_lt_iff_lt_mul (by decide), ← Nat.pow_succ]
        exact b
theorem pow27 {n : Nat} (h : n ≤ 6) : 27 ^ n ≤ 387420489 := by
  have := Nat.pow_le_pow_right (show 0 < 27 by decide) h
  have e : 27 ^ 6 = 387420489 := by decide
  omega
theorem op_letter {s : sT} (v k : Int32) (I : Inv s) : two Inv (c11_letter v k) (c12_letter v k) s := by
  have I2 := I
  obtain ⟨fin, most, ppl, bk, mi, L, lc, cc, w, κ, -, ⟨-, -, -, -, -, -, -, ⟨o1, o2, -, -, o5, -⟩, ⟨-, -, -, -, r5, -⟩, -, -, o12⟩, -⟩ := I2
  have L5 : (5 : Int64).toInt = 5 := rfl
  by_cases h : ∃ p, p < ppl ∧ v = nI p
  · obtain ⟨p, hp, rfl⟩ := h
    obtain ⟨⟨V, n, n1, n2, n3, n4, n5, n6⟩, -⟩ := o12 p hp
    have b27 := pow27 n2
    refine e_c11_letter (perC_t o5 o2 hp (yes1 ?_))
    by_cases h2 : ∃ j, j < 6 ∧ k = nI j
    · obtain ⟨j, hj, rfl⟩ := h2
      refine br_f (nI_pos (by omega)) (br_t (nI_lt (b := 6) hj (by decide)) ⟨vp_in_nI (by omega) (by decide), fun x hx => ?_⟩)
      rw [nI_clamp (by omega), n5] at hx
      subst hx
      have hVb : V * 27 ^ (6 - n) < 2147483648 := by
        have h1 : V * 27 ^ (6 - n) < 27 ^ n * 27 ^ (6 - n) := Nat.mul_lt_mul_of_pos_right n4 (Nat.pow_pos (by decide))
        rw [← Nat.pow_add, show n + (6 - n) = 6 by omega] at h1
        have e : 27 ^ 6 = 387420489 := by decide
        omega
      have h5 := letC (k := j) hj (Q := fun r1 s1 => c12_letter (nI p) (nI j) (fun r2 s2 => r1 = r2 ∧ Inv s2) s1) (s := s) (5 - j) (V * 27 ^ (6 - n)) (by omega) hVb ?_
      · rw [show j + (5 - j) = 5 by omega] at h5
        exact h5
      · refine e_c12_letter (perR_t r5 o2 hp (yes1 (isIn_t (by rw [wide, L0, L5, nI_toInt (by omega)]; omega) (yes1 ⟨by rw [show (6 : Int32) = nI 6 from rfl, nI_add]; exact vp_in_nI (by omega) (by decide), fun x hx => ?_⟩))))
        rw [show (6 : Int32) = nI 6 from rfl, nI_add, nI_clamp (by omega), n6] at hx
        subst hx
        refine letR1 (V := V) hj (by omega) n 0 V (fun e => by omega) (fun _ => ⟨n3, n4⟩) (by omega) (by omega) ⟨?_, I⟩
        rw [Nat.zero_add]
        congr 1
        by_cases z : j < n
        · rw [if_pos z]
          have e : V * 27 ^ (6 - n) / 27 ^ (5 - j) = V / 27 ^ (n - 1 - j) := by
            rw [show 5 - j = (n - 1 - j) + (6 - n) by omega, Nat.pow_add]
            exact Nat.mul_div_mul_right _ _ (Nat.pow_pos (by decide))
          rw [e]
        · rw [if_neg z]
          have e : V * 27 ^ (6 - n) / 27 ^ (5 - j) = V * 27 ^ (j + 1 - n) := by
            rw [show 6 - n = (j + 1 - n) + (5 - j) by omega, Nat.pow_add, ← Nat.mul_assoc]
            exact Nat.mul_div_cancel _ (Nat.pow_pos (by decide))
          rw [e, show j + 1 - n = (j - n) + 1 by omega, Nat.pow_succ, ← Nat.mul_assoc]
          exact Nat.mul_mod_left _ _
    · have hv := no_k h2
      have hm : c12_letter (nI p) k (fun r2 s2 => -1 = r2 ∧ Inv s2) s := e_c12_letter (perR_t r5 o2 hp (yes1 (isIn_f (by rw [wide, L0, L5]; omega) (no0 ⟨rfl, I⟩))))
      refine br_c (fun _ => hm) (fun z => br_f ?_ hm)
      rw [fa_lt, l0] at z
      rw [fa_lt]
      show ¬ k.toInt < 6
      omega
  · exact e_c11_letter (perC_f o5 o2 h (no0 (e_c12_letter (perR_f r5 o2 h (no0 ⟨rfl, I⟩)))))
theorem op_stock {s : sT} (v : Int32) (I : Inv s) : two Inv (c11_stock v) (c12_stock v) s := by
  have I2 := I
  obtain ⟨fin, most, ppl, bk, mi, L, lc, cc, w, κ, -, ⟨-, -, -, -, -, -, -, ⟨o1, o2, -, o4, -⟩, ⟨-, -, -, r4, -⟩, -⟩, ⟨n1, n2, -⟩, -⟩ := I2
  by_cases h : ∃ n, 1 ≤ n ∧ n ≤ fin ∧ v = nI n
  · obtain ⟨n, h1, h2, rfl⟩ := h
    refine e_c11_stock (sizC_t o4 o1 h1 h2 (yes1 ⟨vp_in_nI (by omega) (by decide), e_c12_stock (sizR_t r4 o1 h1 h2 (yes1 ⟨vp_in_nI (by omega) (by decide), ?_, I⟩))⟩))
    rw [nI_clamp (by omega), n1.2.2.1 n h1 (by omega), n2 n (by omega)]
  · exact e_c11_stock (sizC_f o4 o1 h (no0 (e_c12_stock (sizR_f r4 o1 h (no0 ⟨rfl, I⟩)))))
theorem op_kept {s : sT} (v x : Int32) (I : Inv s) : two Inv (c11_kept v x) (c12_kept v x) s := by
  have I2 := I
  obtain ⟨fin, most, ppl, bk, mi, L, lc, cc, w, κ, -, -, ⟨-, -, -, ⟨k1, k2, f, k3, k4, k5⟩, ⟨q1, q2, q3⟩, -⟩, -⟩ := I2
  have L2 : (2 : Int64).toInt = 2 := rfl
  have e1 : ((nI κ.1) - (1 : Int32)).toInt = (κ.1 : Int) - 1 := by
    rw [fb_subI (by rw [nI_toInt (by omega), l1]; omega) (by rw [nI_toInt (by omega), l1]; omega), nI_toInt (by omega), l1]
  by_cases h : ∃ n, n < κ.1 ∧ v = nI n
  · obtain ⟨n, hn, rfl⟩ := h
    have g1 : c12_isIn (Int32.toInt64 (nI n)) (0 : Int64) (Int32.toInt64 ((rI s 200 37) - (1 : Int32))) = c12_isIn (Int32.toInt64 (nI n)) (0 : Int64) (Int32.toInt64 ((nI κ.1) - (1 : Int32))) := by rw [q1]
    have cond : (0 : Int64).toInt ≤ (Int32.toInt64 (nI n)).toInt ∧ (Int32.toInt64 (nI n)).toInt ≤ (Int32.toInt64 ((rI s 200 37) - (1 : Int32))).toInt := by
      rw [q1, wide, wide, L0, e1, nI_toInt (by omega)]; omega
    refine e_c11_kept (br_f (nI_pos (by omega)) (br_t (by rw [k1]; exact nI_lt hn (by omega)) ?_))
    by_cases h2 : ∃ j, j < 3 ∧ x = nI j
    · obtain ⟨j, hj, rfl⟩ := h2
      refine br_f (nI_pos (by omega)) (br_t (nI_lt (b := 3) hj (by decide)) (e_c9_keptAt ?_))
      have e2 : ((nI f + nI n) - (nI f + nI n) / (40 : Int32) * (40 : Int32)) * (3 : Int32) + nI j = nI ((f + n) % 40 * 3 + j) := by
        rw [nI_add, show (40 : Int32) = nI 40 from rfl, pk_rem (by omega) (by decide) (by decide), show (3 : Int32) = nI 3 from rfl, pk_mul, nI_add]
      have hm : (f + n) % 40 < 40 := Nat.mod_lt _ (by decide)
      rw [k4, e2, nI_clamp (by omega), k5 n hn j hj]
      refine ⟨vp_in_nI (by omega) (by decide), e_c12_kept (isIn_t cond (yes1 (isIn_t (by rw [wide, L0, L2, nI_toInt (by omega)]; omega) (yes1 ?_))))⟩
      have e3 : (38 : Int32) + (3 : Int32) * nI n + nI j = nI (38 + 3 * n + j) := by
        rw [show (38 : Int32) = nI 38 from rfl, show (3 : Int32) = nI 3 from rfl, pk_mul, nI_add, nI_add]
      rw [e3, nI_clamp (by omega), q3 n hn j hj]
      exact ⟨vp_in_nI (by omega) (by decide), rfl, I⟩
    · have hv := no_k h2
      have hm : c12_kept (nI n) x (fun r2 s2 => -1 = r2 ∧ Inv s2) s := e_c12_kept (isIn_t cond (yes1 (isIn_f (by rw [wide, L0, L2]; omega) (no0 ⟨rfl, I⟩))))
      refine br_c (fun _ => hm) (fun z => br_f ?_ hm)
      rw [fa_lt, l0] at z
      rw [fa_lt]
      show ¬ x.toInt < 3
      omega
  · have hv := no_k h
    have hm : c12_kept v x (fun r2 s2 => -1 = r2 ∧ Inv s2) s := e_c12_kept (isIn_f (by rw [q1, wide, wide, L0, e1]; omega) (no0 ⟨rfl, I⟩))
    refine e_c11_kept (br_c (fun _ => hm) (fun z => br_f ?_ hm))
    rw [fa_lt, l0] at z
    rw [k1, fa_lt, nI_toInt (by omega)]
    omega
