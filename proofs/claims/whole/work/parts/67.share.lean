theorem wsL_0 {fin : Nat} (hf : fin ≤ 24) : ∀ k m set, k ≤ fin → wsL fin k m 0 set = []
  | 0, _, _, _ => rfl
  | k + 1, m, set, hk => by
    have := prt_pos (n := fin - k) (by omega) (by omega)
    unfold wsL
    rw [if_neg (by omega), if_neg (by omega), if_neg (by omega)]
    exact wsL_0 hf k m set (by omega)
/-- the units of a share -/
def un (a b : Nat) : Nat := if 5354228880 * a % b = 0 then 5354228880 * a / b else 0
theorem un_lt {a b : Nat} (ha : a ≤ 99) : un a b < 2 ^ 45 := by
  have h1 : 5354228880 * a / b ≤ 5354228880 * a := Nat.div_le_self _ _
  unfold un
  split <;> omega
theorem w_units {a b : Nat} {Q : Int64 → sT → Prop} {s : sT} (ha : a ≤ 99) (hb1 : 1 ≤ b) (hb : b ≤ 99) (h : Q (lN (un a b)) s) : c1_units (nI a) (nI b) Q s := by
  have e : (Int32.toInt64 (nI a)) * (5354228880 : Int64) = lN (5354228880 * a) := by
    rw [nI_l (by omega), show (5354228880 : Int64) = lN 5354228880 from rfl, lN_mul, Nat.mul_comm]
  have hne : ¬ (Int32.toInt64 (nI b)) = 0 := by
    rw [nI_l (by omega), show (0 : Int64) = lN 0 from rfl, lN_eqB (by omega) (by decide)]
    omega
  have hm : 5354228880 * a % b < b := Nat.mod_lt _ (by omega)
  have hq : 5354228880 * a / b ≤ 5354228880 * a := Nat.div_le_self _ _
  refine e_c1_units (br_t (nI_lt (a := 0) (by omega) (by omega)) ⟨hne, ?_⟩)
  rw [e, nI_l (by omega), lN_rem (by omega) (by omega) (by omega), lN_div (by omega) (by omega) (by omega), show (0 : Int64) = lN 0 from rfl, lN_eqB (by omega) (by decide)]
  unfold un at h
  refine br_c (fun q => ⟨by rw [nI_l (by omega)] at hne; exact hne, ?_⟩) (fun q => ?_)
  · rw [if_pos q] at h; exact h
  · rw [if_neg q] at h; exact h
theorem w_partsOf {a b : Nat} {Q : Int64 → sT → Prop} {s : sT} (ha : a ≤ 99) (hb1 : 1 ≤ b) (hb : b ≤ 99) (h : Q (lN (un a b)) s) : c12_partsOf (nI a) (nI b) Q s := by
  have e : (5354228880 : Int64) * (Int32.toInt64 (nI a)) = lN (5354228880 * a) := by
    rw [nI_l (by omega), show (5354228880 : Int64) = lN 5354228880 from rfl, lN_mul]
  have hne : ¬ (Int32.toInt64 (nI b)) = 0 := by
    rw [nI_l (by omega), show (0 : Int64) = lN 0 from rfl, lN_eqB (by omega) (by decide)]
    omega
  have hm : 5354228880 * a % b < b := Nat.mod_lt _ (by omega)
  have hq : 5354228880 * a / b ≤ 5354228880 * a := Nat.div_le_self _ _
  refine e_c12_partsOf ⟨hne, ?_⟩
  rw [e, nI_l (by omega), lN_rem (by omega) (by omega) (by omega), lN_div (by omega) (by omega) (by omega), show (0 : Int64) = lN 0 from rfl, lN_eqB (by omega) (by decide)]
  unfold un at h
  refine br_c (fun q => ⟨by rw [nI_l (by omega)] at hne; exact hne, ?_⟩) (fun q => ?_)
  · rw [if_pos q] at h; exact h
  · rw [if_neg q] at h; exact h
def XFF (a j : Nat) : Bool := XF a j || (Nat.beq a 35 && Nat.beq j 6)
theorem w_findU {fin most U : Nat} {Q : Int32 → sT → Prop} {s : sT} (hf : fin ≤ 24) (hm1 : 1 ≤ most) (hm : most ≤ 6) (hF : rI s 21 0 = nI fin) (hM : rI s 21 1 = nI most) (hP : prC s) (K : IK s fin most) (h45 : U < 2 ^ 45) (h : ∀ s', Fr XFF s s' → IK s' fin most → FLc s' (wrs fin most U) → Q (nI (wrs fin most U).length) s') : c1_find (lN U) Q s := by
  rcases Nat.eq_zero_or_pos U with q | q
  · subst q
    have e : wrs fin most 0 = [] := wsL_0 hf fin most 0 (Nat.le_refl _)
    rw [e] at h
    exact w_find0 K (by decide) h
  · exact w_find hf hm1 hm hF hM hP K q h45 h
theorem w_laysU {fin most U : Nat} {Q : sT → Prop} {s : sT} (hf : fin ≤ 24) (hm1 : 1 ≤ most) (hm : most ≤ 6) (hF : rI s 193 5 = nI fin) (ht : rI s 162 49 = 1) (h6 : rI s 193 6 = nI most) (h45 : U < 2 ^ 45) (h : ∀ s', Fr XL s s' → FLr s' (wrs fin most U) → Q s') : c12_laysWritings (lN U) Q s := by
  rcases Nat.eq_zero_or_pos U with q | q
  · subst q
    have e : wrs fin most 0 = [] := wsL_0 hf fin most 0 (Nat.le_refl _)
    rw [e] at h
    exact w_lays0 (by decide) h
  · exact w_lays hf hm1 hm hF ht h6 q h45 h
theorem off_XFF {f : Nat → Nat → Bool} (h1 : ∀ j, f 37 j = false) (h2 : f 35 3 = false) (h3 : f 35 6 = false) : off f XFF := fun a j q => by
  unfold XFF XF
  rw [Bool.eq_false_iff]
  intro z
  simp only [Bool.or_eq_true, Bool.and_eq_true, Nat.beq_eq] at z
  rcases z with (rfl | ⟨rfl, rfl⟩) | ⟨rfl, rfl⟩
  · rw [h1] at q; cases q
  · rw [h2] at q; cases q
  · rw [h3] at q; cases q
theorem IA_k {s t : sT} {fin most ppl bk mi : Nat} {L : Nat → List Nat} {lc cc : List Nat} {w : Nat → Nat} {κ : kT} (I : IA s fin most ppl bk mi L lc cc w κ) (h : Fr XFF s t) (hK : IK t fin most) : IA t fin most ppl bk mi L lc cc w κ := by
  obtain ⟨⟨c1, c2, c3, c4, c5, c6⟩, i1, i2, i3, i4, i5⟩ := I
  exact ⟨⟨IC_fr h (off_XFF (fun _ => rfl) rfl rfl) c1, IT_fr h (off_XFF (fun _ => rfl) rfl rfl) c2, IR_fr h (off_XFF (fun _ => rfl) rfl rfl) c3, IF_fr h (off_XFF (fun _ => rfl) rfl rfl) c4, IP_fr h (off_XFF (fun _ => rfl) rfl rfl) c5, IS_fr h (off_XFF (fun _ => rfl) rfl rfl) c6⟩, IO_fr h (off_XFF (fun _ => rfl) rfl rfl) i1, IN_fr h (off_XFF (fun _ => rfl) rfl rfl) i2, IH_fr h (off_XFF (fun _ => rfl) rfl rfl) i3, IX_fr h (off_XFF (fun _ => rfl) rfl rfl) i4, hK⟩
/-- what is written belongs to no one -/
theorem IA_y {X : Nat → Nat → Bool} {s t : sT} {fin most ppl bk mi : Nat} {L : Nat → List Nat} {lc cc : List Nat} {w : Nat → Nat} {κ : kT} (I : IA s fin most ppl bk mi L lc cc w κ) (h : Fr X s t) (hz : ∀ a j, X a j = true → Xz a j = true) (h200 : ∀ j, X 200 j = false) (h64 : X 162 64 = false) (h148 : ∀ a j, a = 148 ∨ a = 152 → X a j = false) : IA t fin most ppl bk mi L lc cc w κ := by
  obtain ⟨-, -, ⟨n1, n2, n3, n4, n5, n6, n7⟩, -⟩ := id I
  exact IA_z I (fr_mo h hz) (fun k _ => by rw [h.1 _ _ (h200 _)]; exact n2 k (by assumption)) (fun j _ => h.1 _ _ (h200 _)) (by rw [h.1 _ _ h64]; exact n6) (k148_fr h h148 n7)
theorem xz_L {a j : Nat} (h : XL a j = true) : Xz a j = true := by
  unfold XL at h
  unfold Xz
  simp only [Bool.or_eq_true, Bool.and_eq_true, Nat.beq_eq, Nat.ble_eq] at *
  omega
theorem IA_L {s t : sT} {fin most ppl bk mi : Nat} {L : Nat → List Nat} {lc cc : List Nat} {w : Nat → Nat} {κ : kT} (I : IA s fin most ppl bk mi L lc cc w κ) (h : Fr XL s t) : IA t fin most ppl bk mi L lc cc w κ :=
  IA_y I h (fun a j q => xz_L q) (fun _ => rfl) rfl (fun a j q => by rcases q with rfl | rfl <;> rfl)
theorem shC_t {fin a b : Nat} {Q : Int32 → sT → Prop} {s : sT} (hF : rI s 21 0 = nI fin) (h24 : fin ≤ 24) (hf : 1 ≤ fin) (a1 : 1 ≤ a) (a2 : a ≤ 99) (b1 : 1 ≤ b) (b2 : b ≤ 99) (q : Q 1 s) : c11_isShare (nI a) (nI b) Q s :=
  e_c11_isShare (offC_t hF h24 hf (yes1 (br_f (nI_nlt (b := 1) a1 (by omega)) (br_f (nI_nlt (a := 99) a2 (by decide)) (br_f (nI_nlt (b := 1) b1 (by omega)) (br_f (nI_nlt (a := 99) b2 (by decide)) q))))))
def okS (fin : Nat) (v x : Int32) : Prop := 1 ≤ fin ∧ ∃ a b, 1 ≤ a ∧ a ≤ 99 ∧ 1 ≤ b ∧ b ≤ 99 ∧ v = nI a ∧ x = nI b
theorem shC_f {fin : Nat} {v x : Int32} {Q : Int32 → sT → Prop} {s : sT} (hF : rI s 21 0 = nI fin) (h24 : fin ≤ 24) (hn : ¬ okS fin v x) (q : Q 0 s) : c11_isShare v x Q s := by
  refine e_c11_isShare ?_
  by_cases hf : fin = 0
  · exact offC_f (by rw [hF, hf]) (no0 q)
  · refine offC_t hF h24 (by omega) (yes1 (br_c (fun _ => q) (fun q1 => br_c (fun _ => q) (fun q2 => br_c (fun _ => q) (fun q3 => br_c (fun _ => q) (fun q4 => ?_))))))
    rw [fa_lt, l1] at q1 q3
    rw [fa_lt] at q2 q4
    have q2' : ¬ (99 : Int) < v.toInt := q2
    have q4' : ¬ (99 : Int) < x.toInt := q4
    exact absurd ⟨by omega, v.toInt.toNat, x.toInt.toNat, by omega, by omega, by omega, by omega, i_nI (by omega) (by omega), i_nI (by omega) (by omega)⟩ hn
theorem shR_t {a b : Nat} {Q : Int32 → sT → Prop} {s : sT} (ht : rI s 162 49 = 1) (a1 : 1 ≤ a) (a2 : a ≤ 99) (b1 : 1 ≤ b) (b2 : b ≤ 99) (q : Q 1 s) : c12_isShare (nI a) (nI b) Q s := by
  have L99 : (99 : Int64).toInt = 99 := rfl
  exact e_c12_isShare (br_f (by rw [ht]; decide) (isIn_t (by rw [wide, L1, L99, nI_toInt (by omega)]; omega) (yes1 (isIn_t (by rw [wide, L1, L99, nI_toInt (by omega)]; omega) (yes1 q)))))
theorem shR_f {fin : Nat} {v x : Int32} {Q : Int32 → sT → Prop} {s : sT} (h0 : fin = 0 → rI s 162 49 = 0) (hn : ¬ okS fin v x) (q : Q 0 s) : c12_isShare v x Q s := by
  have L99 : (99 : Int64).toInt = 99 := rfl
  refine e_c12_isShare (br_c (fun _ => q) (fun z => m_isIn (fun y1 => yes1 (m_isIn (fun y2 => yes1 ?_) (fun _ => no0 q))) (fun _ => no0 q)))
  rw [wide, L1, L99] at y1 y2
  have hf : 1 ≤ fin := by
    rcases Nat.eq_zero_or_pos fin with w | w
    · exact absurd (h0 w) z
    · exact w
  exact absurd ⟨hf, v.toInt.toNat, x.toInt.toNat, by omega, by omega, by omega, by omega, i_nI (by omega) (by omega), i_nI (by omega) (by omega)⟩ hn
theorem prC_of {s : sT} (I : IC s) : prC s := I.1
theorem op_writings {s : sT} (v x : Int32) (I : Inv s) : two Inv (c11_writings v x) (c12_writings v x) s := by
  obtain ⟨fin, most, ppl, bk, mi, L, lc, cc, w, κ, I⟩ := I
  obtain ⟨⟨c1, -⟩, io, -, -, -, ik⟩ := id I
  obtain ⟨-, m1, m6, -, eM, -, -, OC, OR, -⟩ := id io
  have h24 := OC.1
  by_cases hn : okS fin v x
  · obtain ⟨hf, a, b, a1, a2, b1, b2, rfl, rfl⟩ := hn
    obtain ⟨-, ht, h6⟩ := IO_told io (by omega)
    refine e_c11_writings (shC_t OC.2.2.2.1 h24 hf a1 a2 b1 b2 (yes1 (w_units a2 b1 b2 (w_findU h24 m1 m6 OC.2.2.2.1 eM (prC_of c1) ik (un_lt a2) (fun s1 F1 K1 A1 => ?_)))))
    have I1 := IA_k I F1 K1
    refine e_c12_writings (shR_t (by rw [F1.1 _ _ rfl]; exact ht) a1 a2 b1 b2 (yes1 (w_partsOf a2 b1 b2 (w_laysU h24 m1 m6 (by rw [F1.1 _ _ rfl]; exact OR.2.2.2.1) (by rw [F1.1 _ _ rfl]; exact ht) (by rw [F1.1 _ _ rfl]; exact h6) (un_lt a2) (fun s2 F2 A2 => ⟨A2.1.symm, IA_Inv (IA_L I1 F2)⟩)))))
  · exact e_c11_writings (shC_f OC.2.2.2.1 h24 hn (no0 (e_c12_writings (shR_f (fun z => (IO_not io z).2.2) hn (no0 ⟨rfl, IA_Inv I⟩)))))
theorem op_writing {s : sT} (v x y : Int32) (I : Inv s) : two Inv (c11_writing v x y) (c12_writing v x y) s := by
  obtain ⟨fin, most, ppl, bk, mi, L, lc, cc, w, κ, I⟩ := I
  obtain ⟨⟨c1, -⟩, io, -, -, -, ik⟩ := id I
  obtain ⟨-, m1, m6, -, eM, -, -, OC, OR, -⟩ := id io
  have h24 := OC.1
  by_cases hn : okS fin v x
  · obtain ⟨hf, a, b, a1, a2, b1, b2, rfl, rfl⟩ := hn
    obtain ⟨-, ht, h6⟩ := IO_told io (by omega)
    refine e_c11_writing (e_c11_writings (shC_t OC.2.2.2.1 h24 hf a1 a2 b1 b2 (yes1 (w_units a2 b1 b2 (w_findU h24 m1 m6 OC.2.2.2.1 eM (prC_of c1) ik (un_lt a2) (fun s1 F1 K1 A1 => ?_))))))
    have I1 := IA_k I F1 K1
    have hl : (wrs fin most (un a b)).length ≤ 32 := by
      rcases Nat.eq_zero_or_pos (un a b) with q | q
      · rw [q]
        have e : wrs fin most 0 = [] := wsL_0 h24 fin most 0 (Nat.le_refl _)
        rw [e]
        exact Nat.zero_le _
      · exact wrs_32 h24 m6 q
    have R : ∀ r : Int32, (∀ k (h : k < (wrs fin most (un a b)).length), y = nI k → r = nI (wrs fin most (un a b))[k]) → ((¬ ∃ k, k < (wrs fin most (un a b)).length ∧ y = nI k) → r = -1) → c12_writing (nI a) (nI b) y (fun r2 s2 => r = r2 ∧ Inv s2) s1 := fun r hr1 hr0 => by
      refine e_c12_writing (shR_t (by rw [F1.1 _ _ rfl]; exact ht) a1 a2 b1 b2 (yes1 (w_partsOf a2 b1 b2 (w_laysU h24 m1 m6 (by rw [F1.1 _ _ rfl]; exact OR.2.2.2.1) (by rw [F1.1 _ _ rfl]; exact ht) (by rw [F1.1 _ _ rfl]; exact h6) (un_lt a2) (fun s2 F2 A2 => ?_)))))
      have I2 := IA_Inv (IA_L I1 F2)
      have e1 : ((nI (wrs fin most (un a b)).length) - (1 : Int32)).toInt = ((wrs fin most (un a b)).length : Int) - 1 := by
        rw [fb_subI (by rw [nI_toInt (by omega), l1]; omega) (by rw [nI_toInt (by omega), l1]; omega), nI_toInt (by omega), l1]
      rw [A2.1]
      by_cases hk : ∃ k, k < (wrs fin most (un a b)).length ∧ y = nI k
      · obtain ⟨k, hk, rfl⟩ := hk
        refine isIn_t (by rw [wide, wide, L0, e1, nI_toInt (by omega)]; omega) (yes1 ⟨vp_in_nI (by omega) (by decide), ?_, I2⟩)
        rw [nI_clamp (by omega), A2.2 k hk]
        exact hr1 k hk rfl
      · have hv := no_k hk
        exact isIn_f (by rw [wide, wide, L0, e1]; omega) (no0 ⟨hr0 hk, I2⟩)
    refine br_c (fun q => R _ (fun k h e => ?_) (fun _ => rfl)) (fun q => br_c (fun q2 => ?_) (fun q2 => R _ (fun k h e => ?_) (fun _ => rfl)))
    · rw [e] at q
      exact absurd q (nI_pos (by omega))
    · obtain ⟨k, hk, rfl⟩ := nI_of q
      rw [nI_ltI hk (by omega)] at q2
      refine ⟨vp_in_nI (by omega) (by decide), ?_⟩
      rw [nI_clamp (by omega), A1.2 k q2]
      refine R _ (fun i h e => ?_) (fun z => absurd ⟨k, q2, rfl⟩ z)
      rw [nI_eq (by omega) (by omega)] at e
      subst e
      rfl
    · rw [e] at q2
      exact absurd (nI_lt h (by omega)) q2
  · have R : c12_writing v x y (fun r2 s2 => -1 = r2 ∧ Inv s2) s := e_c12_writing (shR_f (fun z => (IO_not io z).2.2) hn (no0 ⟨rfl, IA_Inv I⟩))
    refine e_c11_writing (e_c11_writings (shC_f OC.2.2.2.1 h24 hn (no0 (br_c (fun _ => R) (fun q => br_f (fun z => ?_) R)))))
    rw [fa_lt, l0] at q
    rw [fa_lt] at z
    have : ((-1 : Int32)).toInt = -1 := rfl
    omega
