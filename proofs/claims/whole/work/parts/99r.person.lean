-- a person of an office
theorem nm_ex {T : Tok} {l : List Nat} {p pl : Nat} (h : nmOK T l) (h' : nmNo T p pl) : False := by
  obtain ⟨e1, e2, e3⟩ := h
  rcases h' with ⟨l', q1, q2, -⟩ | ⟨q1, -⟩
  · obtain rfl := tWd_i e1 q1
    omega
  · exact e3 (q1 l e1)
theorem nmNo_1 {T : Tok} {p pl pl' : Nat} (h : nmNo T p pl) (h' : nmNo T p pl') : pl = pl' := by
  rcases h with ⟨l, a1, a2, rfl⟩ | ⟨a1, rfl⟩
  · rcases h' with ⟨l', b1, b2, rfl⟩ | ⟨b1, rfl⟩
    · rfl
    · have := ownW_6 l (b1 l a1)
      omega
  · rcases h' with ⟨l', b1, b2, rfl⟩ | ⟨b1, rfl⟩
    · have := ownW_6 l' (a1 l' b1)
      omega
    · rfl
theorem nmOK_I {b : Nat → Nat} {n : Nat} {P : pT} {l : List Nat} (h : nmOK (tok b n P) l) : nmI (nmW l 0) l.length := by
  obtain ⟨e1, e2, e3⟩ := h
  obtain ⟨d1, d2, d3, d4⟩ := tok_word.1 e1
  have hg := eot_gt (b := b) (n := n) (i := P.1)
  have hlen : l.length = eot b n P.1 - P.1 := by rw [← d4, sub_len]
  have hc : ∀ c, c ∈ l → 97 ≤ c ∧ c ≤ 122 := fun c hc => by
    obtain ⟨k, hk, rfl⟩ := List.getElem_of_mem hc
    subst d4
    rw [sub_at]
    exact let_of ((eot_in (n := n) (by rw [d2]; decide) (by omega) (by rw [sub_len] at hk; omega)).trans d2)
  obtain ⟨i1, i2, i3⟩ := nmW_lt hc 0
  obtain ⟨i4, i5⟩ := i3 (by omega)
  rw [Nat.zero_mul, Nat.zero_add, Nat.one_mul] at i5
  rw [Nat.zero_add, Nat.one_mul] at i1
  exact ⟨by omega, e2, i5, i1, i4⟩
theorem nmI_lt {V n : Nat} (h : nmI V n) : V * 27 ^ (6 - n) < 387420489 ∧ V < 387420489 := by
  obtain ⟨h1, h2, h3, h4, h5⟩ := h
  have e : 27 ^ n * 27 ^ (6 - n) = 27 ^ 6 := by rw [← Nat.pow_add]; congr 1; omega
  have p : 0 < 27 ^ (6 - n) := Nat.pow_pos (by decide)
  have m := Nat.mul_lt_mul_of_pos_right h4 p
  have m2 : 27 ^ n ≤ 27 ^ 6 := Nat.pow_le_pow_right (by decide) h2
  have s6 : 27 ^ 6 = 387420489 := by decide
  omega
theorem nmI_le {V n V' n' : Nat} (h : nmI V n) (h' : nmI V' n') (hn : n ≤ n') (e : V * 27 ^ (6 - n) = V' * 27 ^ (6 - n')) : V = V' := by
  obtain ⟨h1, h2, h3, h4, h5⟩ := h
  obtain ⟨g1, g2, g3, g4, g5⟩ := h'
  have p : 0 < 27 ^ (6 - n') := Nat.pow_pos (by decide)
  have q : 27 ^ (6 - n) = 27 ^ (n' - n) * 27 ^ (6 - n') := by rw [← Nat.pow_add]; congr 1; omega
  rw [q, ← Nat.mul_assoc] at e
  have e2 := Nat.eq_of_mul_eq_mul_right p e
  rcases Nat.eq_or_lt_of_le hn with y | y
  · subst y
    rw [Nat.sub_self, Nat.pow_zero, Nat.mul_one] at e2
    exact e2
  · obtain ⟨d, hd⟩ : ∃ d, n' - n = d + 1 := ⟨n' - n - 1, by omega⟩
    rw [hd, Nat.pow_succ, ← Nat.mul_assoc] at e2
    rw [← e2] at g5
    exact absurd (Nat.mul_mod_left _ _) g5
theorem nmI_eq {V n V' n' : Nat} (h : nmI V n) (h' : nmI V' n') : V * 27 ^ (6 - n) = V' * 27 ^ (6 - n') ↔ V = V' := by
  refine ⟨fun e => ?_, fun e => ?_⟩
  · rcases Nat.le_total n n' with q | q
    · exact nmI_le h h' q e
    · exact (nmI_le h' h q e.symm).symm
  · subst e
    obtain ⟨h1, h2, h3, h4, h5⟩ := h
    obtain ⟨g1, g2, g3, g4, g5⟩ := h'
    have : n = n' := by
      rcases Nat.lt_trichotomy n n' with q | q | q
      · have := Nat.pow_le_pow_right (n := 27) (by decide) (show n ≤ n' - 1 by omega)
        omega
      · exact q
      · have := Nat.pow_le_pow_right (n := 27) (by decide) (show n' ≤ n - 1 by omega)
        omega
    rw [this]
theorem c_hasNm {s : sT} {D : dT} {V n : Nat} {Q : Int32 → sT → Prop} (h : DC s D) (hV : dOK D) (hN : nmI V n) (h1 : (∃ p, p < dM D 2 ∧ dV D p = V) → Q 1 s) (h0 : (∀ p, p < dM D 2 → dV D p ≠ V) → Q 0 s) : c7_hasName (nI (V * 27 ^ (6 - n))) Q s := by
  obtain ⟨-, -, o3, -, -, o6, -⟩ := hV
  have hx := nmI_lt hN
  have main : ∀ m k, k + m = dM D 2 → (∀ p, p < k → dV D p ≠ V) → c7_hasName_2 (nI (V * 27 ^ (6 - n))) (nI k) Q s := by
    intro m
    induction m with
    | zero =>
      intro k e g
      refine e_c7_hasName_2 (br_f ?_ (h0 (fun p hp => g p (by omega))))
      rw [h.1 2 (by decide)]
      exact nI_nlt (by omega) (by omega)
    | succ m ih =>
      intro k e g
      have hk : k < dM D 2 := by omega
      obtain ⟨ok, -⟩ := o6 k hk
      have hy := nmI_lt ok
      refine e_c7_hasName_2 (br_t (by rw [h.1 2 (by decide)]; exact nI_lt hk (by omega)) ⟨vp_in_nI (by omega) (by decide), ?_⟩)
      rw [nI_clamp (by omega), (h.2.2.2.1 k hk).1, nI_eq (by omega) (by omega), nmI_eq ok hN, nI_1]
      refine br_c (fun q => h1 ⟨k, hk, q⟩) (fun q => ih (k + 1) (by omega) (fun p hp => ?_))
      by_cases y : p = k
      · rw [y]; exact q
      · exact g p (by omega)
  exact e_c7_hasName (main (dM D 2) 0 (Nat.zero_add _) (fun p hp => absurd hp (Nat.not_lt_zero _)))
-- the reference
def PFq (V : Int64) (y3 : Int32) (Q : sT → Prop) : Int32 → sT → Prop := fun y6 u7 => ((rI u7 162 5) = 0 → ∀ x8 : Int32, x8 = (rI u7 193 2) → vp_in x8 12 ∧ (∀ u9 : sT, u9 = wJ u7 194 x8.toNatClampNeg V → vp_in ((2 : Int32) * x8) 24 ∧ (∀ u10 : sT, u10 = wI u9 195 ((2 : Int32) * x8).toNatClampNeg y3 → vp_in (((2 : Int32) * x8) + (1 : Int32)) 24 ∧ (∀ u11 : sT, u11 = wI u10 195 (((2 : Int32) * x8) + (1 : Int32)).toNatClampNeg y6 → ∀ u12 : sT, u12 = wI u11 193 2 ((rI u11 193 2) + (1 : Int32)) → Q u12)))) ∧ (¬ (rI u7 162 5) = 0 → Q u7)
def PEq (V : Int64) (y3 : Int32) (Q : sT → Prop) : sT → Prop := fun u5 => c12_number (1 : Int32) (24 : Int32) (PFq V y3 Q) u5
def PDq (V : Int64) (Q : sT → Prop) : Int32 → sT → Prop := fun y3 u4 => c12_asks 169 (PEq V y3 Q) u4
def PCq (V : Int64) (Q : sT → Prop) : sT → Prop := fun u2 => c12_number (1 : Int32) (24 : Int32) (PDq V Q) u2
theorem pf_bad {V : Int64} {y3 y6 : Int32} {Q : sT → Prop} {s : sT} (h5 : ¬ rI s 162 5 = 0) (h : Q s) : PFq V y3 Q y6 s := br_f h5 h
theorem pe_bad {V : Int64} {y3 : Int32} {Q : sT → Prop} {s : sT} (h5 : ¬ rI s 162 5 = 0) (h : Q s) : PEq V y3 Q s := r_numberBad h5 (pf_bad h5 h)
theorem pd_bad {V : Int64} {y3 : Int32} {Q : sT → Prop} {s : sT} (h5 : ¬ rI s 162 5 = 0) (h : Q s) : PDq V Q y3 s := r_asksBad h5 (pe_bad h5 h)
theorem pc_bad {V : Int64} {Q : sT → Prop} {s : sT} (h5 : ¬ rI s 162 5 = 0) (h : Q s) : PCq V Q s := r_numberBad h5 (pd_bad h5 h)
theorem p32_go {s : sT} {V : Nat} {D : dT} {cd : Nat} {Q : sT → Prop} (h5 : rI s 162 5 = 0) (h : DR s D cd) (hV : dOK D) (hv : V < 387420489) (hno : ∀ p, p < dM D 2 → dV D p ≠ V) (hQ : c12_asks 168 (PCq (lN V) Q) s) : ∀ m k, k + m = dM D 2 → c12_personTold_32 (lN V) (nI k) Q s := by
  obtain ⟨-, -, o3, -, -, o6, -⟩ := hV
  intro m
  induction m with
  | zero =>
    intro k e
    refine e_c12_personTold_32 (br_f ?_ hQ)
    rw [h.1 2 (by decide)]
    exact nI_nlt (by omega) (by omega)
  | succ m ih =>
    intro k e
    have hk : k < dM D 2 := by omega
    have hy := nmI_lt (o6 k hk).1
    refine e_c12_personTold_32 (br_t (by rw [h.1 2 (by decide)]; exact nI_lt hk (by omega)) (br_t h5 ⟨vp_in_nI (by omega) (by decide), br_f (fun q => ?_) ?_⟩))
    · rw [nI_clamp (by omega), (h.2.1 k hk).1, lN_eqB (by omega) (by omega)] at q
      exact hno k hk q
    · rw [nI_1]
      exact ih (k + 1) (by omega)
theorem p32_dup {s : sT} {V pl : Nat} {D : dT} {cd : Nat} {Q : sT → Prop} (h5 : rI s 162 5 = 0) (h39 : rI s 162 39 = nI pl) (h : DR s D cd) (hV : dOK D) (hv : V < 387420489) (hQ : ∀ s', Fr XLR s s' → RX s' 3 pl → Q s') : ∀ m k, k + m = dM D 2 → (∃ p, k ≤ p ∧ p < dM D 2 ∧ dV D p = V) → c12_personTold_32 (lN V) (nI k) Q s := by
  obtain ⟨-, -, o3, -, -, o6, -⟩ := hV
  intro m
  induction m with
  | zero =>
    rintro k e ⟨p, p1, p2, -⟩
    omega
  | succ m ih =>
    rintro k e ⟨p, p1, p2, p3⟩
    have hk : k < dM D 2 := by omega
    have hy := nmI_lt (o6 k hk).1
    refine e_c12_personTold_32 (br_t (by rw [h.1 2 (by decide)]; exact nI_lt hk (by omega)) (br_t h5 ⟨vp_in_nI (by omega) (by decide), ?_⟩))
    rw [nI_clamp (by omega), (h.2.1 k hk).1, lN_eqB (by omega) (by omega), nI_1, h39]
    refine br_c (fun q => r_fail (f := 3) h5 (by decide) (fun s' F X => r_p32Bad (RX_n0 X) o3 (by rw [F.1 _ _ rfl]; exact h.1 2 (by decide)) (hQ s' F X) m (k + 1) (by omega))) (fun q => ih (k + 1) (by omega) ⟨p, ?_, p2, p3⟩)
    by_cases y : p = k
    · rw [y] at p3; exact absurd p3 q
    · omega
theorem p_name {s0 s : sT} {b : Nat → Nat} {n i : Nat} {P : pT} {D : dT} {l : List Nat} {x : Int32} {Q : sT → Prop} (hV : dOK D) (R : RO s0 s b n P i D) (h6 : dM D 2 < 6) (hk : nmOK (tok b n P) l) (hno : ∀ p, p < dM D 2 → dV D p ≠ nmW l 0) (h : ∀ s', RO s0 s' b n (adv b n P) i D → c12_asks 168 (PCq (lN (nmW l 0)) Q) s') : c12_personTold x Q s := by
  obtain ⟨-, -, -, -, -, cd, -, d1, -⟩ := id R
  refine e_c12_personTold (br_t R.2.2.1.1 (br_f ?_ (r_nm R.2.2.2.1 R.2.1.1 R.2.2.1 (fun l' hk' s1 F L e39 => ?_) (fun pl hn => (nm_ex hk hn).elim))))
  · rw [d1 2 (by decide), show (6 : Int32) = nI 6 from rfl, nI_eq (by omega) (by decide)]
    omega
  · obtain rfl := tWd_i hk.1 hk'.1
    have R1 := RO_a R F L
    obtain ⟨-, -, -, -, -, cd1, -, e1⟩ := id R1
    exact p32_go R1.2.2.1.1 e1 hV (nmI_lt (nmOK_I hk)).2 hno (h s1 R1) (dM D 2) 0 (Nat.zero_add _)
theorem p_dup {s0 s : sT} {b : Nat → Nat} {n i : Nat} {P : pT} {D : dT} {l : List Nat} {x : Int32} {Q : sT → Prop} (hV : dOK D) (R : RO s0 s b n P i D) (h6 : dM D 2 < 6) (hk : nmOK (tok b n P) l) (hd : ∃ p, p < dM D 2 ∧ dV D p = nmW l 0) (h : ∀ s', RFo s0 s' 3 P.1 → Q s') : c12_personTold x Q s := by
  obtain ⟨-, -, -, -, -, cd, -, d1, -⟩ := id R
  obtain ⟨p, p1, p2⟩ := hd
  refine e_c12_personTold (br_t R.2.2.1.1 (br_f ?_ (r_nm R.2.2.2.1 R.2.1.1 R.2.2.1 (fun l' hk' s1 F L e39 => ?_) (fun pl hn => (nm_ex hk hn).elim))))
  · rw [d1 2 (by decide), show (6 : Int32) = nI 6 from rfl, nI_eq (by omega) (by decide)]
    omega
  · obtain rfl := tWd_i hk.1 hk'.1
    have R1 := RO_a R F L
    obtain ⟨-, -, -, -, -, cd1, -, e1⟩ := id R1
    exact p32_dup R1.2.2.1.1 e39 e1 hV (nmI_lt (nmOK_I hk)).2 (fun s' F' X' => h s' (RFo_of R1 (fr_mo F' fun a j q => xpr_l q) X')) (dM D 2) 0 (Nat.zero_add _) ⟨p, Nat.zero_le _, p1, p2⟩
theorem p_noName {s0 s : sT} {b : Nat → Nat} {n i pl : Nat} {P : pT} {D : dT} {x : Int32} {Q : sT → Prop} (hV : dOK D) (R : RO s0 s b n P i D) (h6 : dM D 2 < 6) (hk : nmNo (tok b n P) P.1 pl) (h : ∀ s', RFo s0 s' 1 pl → Q s') : c12_personTold x Q s := by
  obtain ⟨-, -, -, -, -, cd, -, d1, -⟩ := id R
  refine e_c12_personTold (br_t R.2.2.1.1 (br_f ?_ (r_nm R.2.2.2.1 R.2.1.1 R.2.2.1 (fun l' hk' => (nm_ex hk' hk).elim) (fun pl' hn s1 F X => ?_))))
  · rw [d1 2 (by decide), show (6 : Int32) = nI 6 from rfl, nI_eq (by omega) (by decide)]
    omega
  · obtain rfl := nmNo_1 hk hn
    exact r_p32Bad (RX_n0 X) hV.2.2.1 (by rw [F.1 _ _ rfl]; exact d1 2 (by decide)) (h s1 (RFo_of R (fr_mo F fun a j q => xpr_l q) X)) (dM D 2) 0 (Nat.zero_add _)
theorem p_many {s0 s : sT} {b : Nat → Nat} {n i pl : Nat} {P : pT} {D : dT} {Q : sT → Prop} (R : RO s0 s b n P i D) (h6 : dM D 2 = 6) (h : ∀ s', RFo s0 s' 5 pl → Q s') : c12_personTold (nI pl) Q s := by
  obtain ⟨-, -, -, -, -, cd, -, d1, -⟩ := id R
  refine e_c12_personTold (br_t R.2.2.1.1 (br_t (by rw [d1 2 (by decide), h6]; rfl) (r_fail (f := 5) R.2.2.1.1 (by decide) (fun s1 F X => r_nameBad (RX_n0 X) ?_))))
  exact r_p32Bad (RX_n0 X) (Nat.le_refl 6) (by rw [F.1 _ _ rfl, d1 2 (by decide), h6]) (h s1 (RFo_of R (fr_mo F fun a j q => xpr_l q) X)) 6 0 (Nat.zero_add _)
/-- one person more -/
def dPe (D : dT) (V n t c : Nat) : dT := (uN (dM D) 2 (dM D 2 + 1), uN (dV D) (dM D 2) V, uN (dN D) (dM D 2) n, uN (dTp D) (dM D 2) t, uN (dBt D) (dM D 2) c, dTo D, dC' D, dL D)
theorem dOK_pe {D : dT} {V n t c : Nat} (h : dOK D) (h6 : dM D 2 < 6) (hN : nmI V n) (ht : 1 ≤ t ∧ t ≤ 24) (hc : 1 ≤ c ∧ c ≤ 24) : dOK (dPe D V n t c) := by
  obtain ⟨d1, d2, d3, d4, d5, d6, d7, d8, d9, d10⟩ := h
  refine ⟨d1, d2, ?_, d4, d5, fun p hp => ?_, d7, d8, d9, d10⟩
  · show uN (dM D) 2 (dM D 2 + 1) 2 ≤ 6
    rw [uN_eq]
    omega
  · have hp : p < uN (dM D) 2 (dM D 2 + 1) 2 := hp
    rw [uN_eq] at hp
    show nmI (uN (dV D) (dM D 2) V p) (uN (dN D) (dM D 2) n p) ∧ 1 ≤ uN (dTp D) (dM D 2) t p ∧ uN (dTp D) (dM D 2) t p ≤ 24 ∧ 1 ≤ uN (dBt D) (dM D 2) c p ∧ uN (dBt D) (dM D 2) c p ≤ 24
    by_cases y : p = dM D 2
    · subst y
      rw [uN_eq, uN_eq, uN_eq, uN_eq]
      exact ⟨hN, ht.1, ht.2, hc⟩
    · rw [uN_ne y, uN_ne y, uN_ne y, uN_ne y]
      exact d6 p (by omega)
theorem DC_pe {s u1 u2 u3 u4 : sT} {D : dT} {V n t c : Nat} (h : DC s D) (h1 : u1 = wI s 8 (dM D 2) (nI (V * 27 ^ (6 - n)))) (h2 : u2 = wI u1 9 (dM D 2) (nI t)) (h3 : u3 = wI u2 10 (dM D 2) (nI c)) (h4 : u4 = wI u3 7 2 (nI (dM D 2 + 1))) : DC u4 (dPe D V n t c) := by
  obtain ⟨g1, g2, g3, g4, g5, g6, g7⟩ := h
  have F : FO (fun a j => (Nat.beq a 7 && Nat.beq j 2) || (Nat.beq a 8 || (Nat.beq a 9 || Nat.beq a 10))) s u4 := FO_of (by rw [h4, h3, h2, h1]; exact fr_wI (fr_wI (fr_wI (fr_wI fr_rf rfl) rfl) rfl) rfl)
  refine ⟨fun k hk => ?_, by rw [F.1 _ _ rfl]; exact g2, by rw [F.1 _ _ rfl]; exact g3, fun p hp => ?_, fun k hk => by rw [F.1 _ _ rfl]; exact g5 k hk, foC_fr F rfl (fun _ => rfl) g6, foC_fr F rfl (fun _ => rfl) g7⟩
  · show rI u4 7 k = nI (uN (dM D) 2 (dM D 2 + 1) k)
    by_cases y : k = 2
    · rw [y, uN_eq, h4, rI_wI, if_pos ⟨rfl, rfl⟩]
    · rw [uN_ne y, h4, rI_wI, if_neg (by omega), h3, rI_wI, if_neg (by omega), h2, rI_wI, if_neg (by omega), h1, rI_wI, if_neg (by omega)]
      exact g1 k hk
  · have hp : p < uN (dM D) 2 (dM D 2 + 1) 2 := hp
    rw [uN_eq] at hp
    show rI u4 8 p = nI (uN (dV D) (dM D 2) V p * 27 ^ (6 - uN (dN D) (dM D 2) n p)) ∧ rI u4 9 p = nI (uN (dTp D) (dM D 2) t p) ∧ rI u4 10 p = nI (uN (dBt D) (dM D 2) c p)
    have r8 : rI u4 8 p = if p = dM D 2 then nI (V * 27 ^ (6 - n)) else rI s 8 p := by
      rw [h4, rI_wI, if_neg (by omega), h3, rI_wI, if_neg (by omega), h2, rI_wI, if_neg (by omega), h1, rI_wI]
      simp only [true_and]
    have r9 : rI u4 9 p = if p = dM D 2 then nI t else rI s 9 p := by
      have i1 : rI u1 9 p = rI s 9 p := by rw [h1, rI_wI, if_neg (by omega)]
      rw [h4, rI_wI, if_neg (by omega), h3, rI_wI, if_neg (by omega), h2, rI_wI, i1]
      simp only [true_and]
    have r10 : rI u4 10 p = if p = dM D 2 then nI c else rI s 10 p := by
      have i1 : rI u2 10 p = rI s 10 p := by rw [h2, rI_wI, if_neg (by omega), h1, rI_wI, if_neg (by omega)]
      rw [h4, rI_wI, if_neg (by omega), h3, rI_wI, i1]
      simp only [true_and]
    rw [r8, r9, r10]
    by_cases y : p = dM D 2
    · rw [if_pos y, if_pos y, if_pos y, y, uN_eq, uN_eq, uN_eq, uN_eq]
      exact ⟨rfl, rfl, rfl⟩
    · rw [if_neg y, if_neg y, if_neg y, uN_ne y, uN_ne y, uN_ne y, uN_ne y]
      exact g4 p (by omega)
theorem RO_pe {s0 s u1 u2 u3 u4 : sT} {b : Nat → Nat} {n i V ln t c : Nat} {P : pT} {D : dT} (R : RO s0 s b n P i D) (h6 : dM D 2 < 6) (h1 : u1 = wJ s 194 (dM D 2) (lN V)) (h2 : u2 = wI u1 195 (2 * dM D 2) (nI t)) (h3 : u3 = wI u2 195 (2 * dM D 2 + 1) (nI c)) (h4 : u4 = wI u3 193 2 (nI (dM D 2 + 1))) : RO s0 u4 b n P i (dPe D V ln t c) := by
  obtain ⟨r1, r2, r3, r4, r5, cd, r6, g1, g2, g3, g4, g5, g7⟩ := R
  have F : Fr (fun a j => (Nat.beq a 193 && Nat.beq j 2) || (Nat.beq a 194 || Nat.beq a 195)) s u4 := by rw [h4, h3, h2, h1]; exact fr_wI (fr_wI (fr_wI (fr_wJ fr_rf rfl) rfl) rfl) rfl
  have FX : Fr XRO s u4 := by rw [h4, h3, h2, h1]; exact fr_wI (fr_wI (fr_wI (fr_wJ fr_rf (xro_t (by omega))) (xro_t (by omega))) (xro_t (by omega))) (xro_t (by omega))
  refine ⟨fr_tr r1 FX, ⟨TR_fr F rfl (fun _ => rfl) r2.1, by rw [F.1 _ _ rfl]; exact r2.2⟩, RL_fr F rfl rfl rfl r3, IC_fr FX oxr_C r4, by rw [F.1 _ _ rfl]; exact r5, cd, r6, fun k hk => ?_, fun p hp => ?_, fun k hk => by rw [F.1 _ _ rfl]; exact g3 k hk, foR_fr F (by decide) rfl rfl (fun _ _ => rfl) g4, foR_fr F (by decide) rfl rfl (fun _ _ => rfl) g5, by rw [F.1 _ _ rfl]; exact g7⟩
  · show rI u4 193 k = nI (uN (dM D) 2 (dM D 2 + 1) k)
    by_cases y : k = 2
    · rw [y, uN_eq, h4, rI_wI, if_pos ⟨rfl, rfl⟩]
    · rw [uN_ne y, h4, rI_wI, if_neg (by omega), h3, rI_wI, if_neg (by omega), h2, rI_wI, if_neg (by omega), h1, rI_wJ]
      exact g1 k hk
  · have hp : p < uN (dM D) 2 (dM D 2 + 1) 2 := hp
    rw [uN_eq] at hp
    show rJ u4 194 p = lN (uN (dV D) (dM D 2) V p) ∧ rI u4 195 (2 * p) = nI (uN (dTp D) (dM D 2) t p) ∧ rI u4 195 (2 * p + 1) = nI (uN (dBt D) (dM D 2) c p)
    have r8 : rJ u4 194 p = if p = dM D 2 then lN V else rJ s 194 p := by
      rw [h4, rJ_wI, h3, rJ_wI, h2, rJ_wI, h1, rJ_wJ]
      simp only [true_and]
    by_cases y : p = dM D 2
    · rw [r8, if_pos y, y, uN_eq, uN_eq, uN_eq]
      refine ⟨rfl, ?_, ?_⟩
      · rw [h4, rI_wI, if_neg (by omega), h3, rI_wI, if_neg (by omega), h2, rI_wI, if_pos ⟨rfl, rfl⟩]
      · rw [h4, rI_wI, if_neg (by omega), h3, rI_wI, if_pos ⟨rfl, rfl⟩]
    · obtain ⟨q1, q2, q3⟩ := g2 p (by omega)
      rw [r8, if_neg y, uN_ne y, uN_ne y, uN_ne y]
      refine ⟨q1, ?_, ?_⟩
      · rw [h4, rI_wI, if_neg (by omega), h3, rI_wI, if_neg (by omega), h2, rI_wI, if_neg (by omega), h1, rI_wJ]
        exact q2
      · rw [h4, rI_wI, if_neg (by omega), h3, rI_wI, if_neg (by omega), h2, rI_wI, if_neg (by omega), h1, rI_wJ]
        exact q3
theorem p_last {s0 s : sT} {b : Nat → Nat} {n i V ln t c : Nat} {P : pT} {D : dT} {Q : sT → Prop} (R : RO s0 s b n P i D) (h6 : dM D 2 < 6) (h : ∀ s', RO s0 s' b n P i (dPe D V ln t c) → Q s') : PFq (lN V) (nI t) Q (nI c) s := by
  obtain ⟨-, -, -, -, -, cd, -, d1, -⟩ := id R
  refine br_t R.2.2.1.1 (fun x hx => ?_)
  rw [d1 2 (by decide)] at hx
  rw [hx, show (2 : Int32) = nI 2 from rfl, pk_mul, show (1 : Int32) = nI 1 from rfl, nI_add, nI_clamp (by omega), nI_clamp (by omega), nI_clamp (by omega)]
  refine ⟨vp_in_nI (by omega) (by decide), fun u1 h1 => ⟨vp_in_nI (by omega) (by decide), fun u2 h2 => ⟨vp_in_nI (by omega) (by decide), fun u3 h3 u4 h4 => h u4 (RO_pe R h6 h1 h2 h3 ?_)⟩⟩⟩
  have e : rI u3 193 2 = nI (dM D 2) := by rw [h3, rI_wI, if_neg (by omega), h2, rI_wI, if_neg (by omega), h1, rI_wJ]; exact d1 2 (by decide)
  rw [e, nI_add] at h4
  exact h4
