-- costs, likes of an office
def dFo (D : dT) (w : Nat) : Bool × List Nat := if w = 0 then dC' D else dL D
def dSe (D : dT) (w : Nat) (c : Bool × List Nat) : dT := (dM D, dV D, dN D, dTp D, dBt D, dTo D, if w = 0 then c else dC' D, if w = 0 then dL D else c)
theorem foR_le {s : sT} {w cd cd' : Nat} {c : Bool × List Nat} (h : foR s w cd c) (hc : cd ≤ cd') : foR s w cd' c := by
  rcases h with ⟨a, b⟩ | ⟨a, frm, b1, b2, b3, b4⟩
  · exact Or.inl ⟨a, b⟩
  · exact Or.inr ⟨a, frm, b1, b2, by omega, b4⟩
theorem DR_fo {s : sT} {D : dT} {cd w : Nat} (h : DR s D cd) (hw : w < 2) : foR s w cd (dFo D w) := by
  have : w = 0 ∨ w = 1 := by omega
  rcases this with rfl | rfl
  · exact h.2.2.2.1
  · exact h.2.2.2.2.1
def XK (a j : Nat) : Bool := Nat.beq a 162 && (Nat.beq j 50 || (Nat.beq j 101 || (Nat.beq j 103 || (Nat.beq j 104 || Nat.beq j 105))))
theorem xkk_f {a j : Nat} (h : XK a j = true) : a = 162 ∧ (j = 50 ∨ j = 101 ∨ j = 103 ∨ j = 104 ∨ j = 105) := by
  unfold XK at h
  simp only [Bool.or_eq_true, Bool.and_eq_true, Nat.beq_eq] at h
  omega
theorem RO_k {s0 s u : sT} {b : Nat → Nat} {n i : Nat} {P : pT} {D : dT} (R : RO s0 s b n P i D) (F : Fr XK s u) : RO s0 u b n P i D := by
  obtain ⟨r1, r2, r3, r4, r5, cd, r6, r7⟩ := R
  have FX : Fr XRO s u := fr_mo F fun a j q => by have := xkk_f q; exact xro_t (by omega)
  exact ⟨fr_tr r1 FX, ⟨TR_fr F rfl (fun _ => rfl) r2.1, by rw [F.1 _ _ rfl]; exact r2.2⟩, RL_fr F rfl rfl rfl r3, IC_fr FX oxr_C r4, by rw [F.1 _ _ rfl]; exact r5, cd, r6, DR_fr F (fun a j q => Bool.eq_false_iff.2 (fun y => by have := xkk_f y; omega)) r7⟩
/-- behind the reading of a sum, a test -/
def COq (w : Nat) (Q : sT → Prop) : sT → Prop := fun u => ((rI u 162 5) = 0 → vp_in (nI w) 4 ∧ (∀ u8 : sT, u8 = wI u 197 (nI w).toNatClampNeg (rI u 162 47) → c12_codesTold_92 (nI w) (0 : Int32) Q u8)) ∧ (¬ (rI u 162 5) = 0 → Q u)
theorem cq_bad {w : Nat} {Q : sT → Prop} {s : sT} (h5 : ¬ rI s 162 5 = 0) (h : Q s) : COq w Q s := br_f h5 h
theorem cod_twice {s0 s : sT} {b : Nat → Nat} {n i w pl : Nat} {P : pT} {D : dT} {Q : sT → Prop} (hw : w < 2) (R : RO s0 s b n P i D) (ht : (dFo D w).1 = true) (h : ∀ s', RFo s0 s' 5 pl → Q s') : c12_codesTold (nI w) (nI pl) Q s := by
  obtain ⟨-, -, -, -, -, cd, r6, r7⟩ := id R
  have hP := R.2.2.1.2.1
  have hn := R.2.1.1.1
  refine e_c12_codesTold (br_t R.2.2.1.1 ⟨vp_in_nI (by omega) (by decide), br_f ?_ (r_fail (f := 5) R.2.2.1.1 (by decide) (fun s1 F X => e_c12_codesTold_23 (br_f (RX_n0 X) (h s1 (RFo_of R (fr_mo F fun a j q => xpr_l q) X)))))⟩)
  rw [nI_clamp (by omega)]
  rcases DR_fo r7 hw with ⟨a, -⟩ | ⟨-, frm, b1, -, b3, -⟩
  · rw [ht] at a
    cases a
  · rw [b1]
    exact nI_nm (by omega)
theorem cod_in {s0 s : sT} {b : Nat → Nat} {n i w : Nat} {x : Int32} {P : pT} {D : dT} {Q : sT → Prop} (hw : w < 2) (R : RO s0 s b n P i D) (ht : (dFo D w).1 = false) (h0 : w = 0 → ∀ u, RO s0 u b n P i D → RC u u b n w P [] [] 0 0 (P.1 + 5) → c12_qSums (COq w Q) u) (h1 : w = 1 → ∀ u, RO s0 u b n P i D → RC u u b n w P [] [] 0 0 (P.1 + 5) → c12_qTest (COq w Q) u) : c12_codesTold (nI w) x Q s := by
  obtain ⟨-, -, -, -, -, cd, r6, r7⟩ := id R
  have st : ∀ u1 u2 u3 u4 u5 : sT, u1 = wI s 162 50 (nI w) → u2 = wI u1 162 101 (0 : Int32) → u3 = wI u2 162 103 (0 : Int32) → u4 = wI u3 162 104 (0 : Int32) → u5 = wI u4 162 105 (0 : Int32) → RO s0 u5 b n P i D ∧ RC u5 u5 b n w P [] [] 0 0 (P.1 + 5) := by
    intro u1 u2 u3 u4 u5 h1 h2 h3 h4 h5
    have F : Fr XK s u5 := by rw [h5, h4, h3, h2, h1]; exact fr_wI (fr_wI (fr_wI (fr_wI (fr_wI fr_rf rfl) rfl) rfl) rfl) rfl
    have R5 := RO_k R F
    refine ⟨R5, fr_rf, R5.2.1, R5.2.2.1, R5.2.2.2.1, ⟨?_, fun k hk => absurd hk (Nat.not_lt_zero _)⟩, ⟨?_, fun k hk => absurd hk (Nat.not_lt_zero _)⟩, ?_, ?_, ?_, ?_, by decide, Nat.le_refl _, by omega⟩
    · rw [h5, rI_wI, if_neg (by omega), h4, rI_wI, if_neg (by omega), h3, rI_wI, if_neg (by omega), h2, rI_wI, if_pos ⟨rfl, rfl⟩]; rfl
    · rw [h5, rI_wI, if_neg (by omega), h4, rI_wI, if_neg (by omega), h3, rI_wI, if_pos ⟨rfl, rfl⟩]; rfl
    · rw [h5, rI_wI, if_neg (by omega), h4, rI_wI, if_pos ⟨rfl, rfl⟩]; rfl
    · rw [h5, rI_wI, if_pos ⟨rfl, rfl⟩]; rfl
    · rw [h5, rI_wI, if_neg (by omega), h4, rI_wI, if_neg (by omega), h3, rI_wI, if_neg (by omega), h2, rI_wI, if_neg (by omega), h1, rI_wI, if_pos ⟨rfl, rfl⟩]
    · show 0 + 0 + (P.1 + 5) ≤ P.1 + 5
      omega
  refine e_c12_codesTold (br_t R.2.2.1.1 ⟨vp_in_nI (by omega) (by decide), br_t ?_ (e_c12_codesTold_23 (br_t R.2.2.1.1 (fun u1 g1 u2 g2 u3 g3 u4 g4 u5 g5 => ?_)))⟩)
  · rw [nI_clamp (by omega)]
    rcases DR_fo r7 hw with ⟨-, a⟩ | ⟨a, -⟩
    · exact a
    · rw [ht] at a
      cases a
  · obtain ⟨a1, a2⟩ := st u1 u2 u3 u4 u5 g1 g2 g3 g4 g5
    have : w = 0 ∨ w = 1 := by omega
    rcases this with rfl | rfl
    · exact br_f (by decide) (h0 rfl u5 a1 a2)
    · exact br_t rfl (h1 rfl u5 a1 a2)
def X92 (cd w a j : Nat) : Bool := (Nat.beq a 162 && Nat.beq j 47) || ((Nat.beq a 199 && (Nat.ble cd j && Nat.blt j 1600)) || (Nat.beq a 198 && Nat.beq j w))
theorem x92_t {cd w a j : Nat} (h : (a = 162 ∧ j = 47) ∨ (a = 199 ∧ cd ≤ j ∧ j < 1600) ∨ (a = 198 ∧ j = w)) : X92 cd w a j = true := by
  unfold X92
  simp only [Bool.or_eq_true, Bool.and_eq_true, Nat.beq_eq, Nat.ble_eq, Nat.blt_eq]
  omega
theorem x92_n {cd w a j : Nat} (h : ¬ ((a = 162 ∧ j = 47) ∨ (a = 199 ∧ cd ≤ j ∧ j < 1600) ∨ (a = 198 ∧ j = w))) : X92 cd w a j = false := by
  rw [Bool.eq_false_iff]
  intro y
  unfold X92 at y
  simp only [Bool.or_eq_true, Bool.and_eq_true, Nat.beq_eq, Nat.ble_eq, Nat.blt_eq] at y
  omega
theorem w_copy {cd w : Nat} {l : List Nat} {Q : sT → Prop} {s0 : sT} (hw : w < 2) (hl : cd + l.length ≤ 1600) (h101 : rI s0 162 101 = nI l.length) (h237 : ∀ k (h : k < l.length), rI s0 237 k = nI l[k]) (h : ∀ s', Fr (X92 cd w) s0 s' → rI s' 162 47 = nI (cd + l.length) → rI s' 198 w = nI (cd + l.length) → (∀ k (h : k < l.length), rI s' 199 (cd + k) = nI l[k]) → Q s') : ∀ m k s, k + m = l.length → Fr (X92 cd w) s0 s → rI s 162 47 = nI (cd + k) → (∀ j (h : j < l.length), j < k → rI s 199 (cd + j) = nI l[j]) → c12_codesTold_92 (nI w) (nI k) Q s := by
  intro m
  induction m with
  | zero =>
    intro k s e F c47 g
    have hk : k = l.length := by omega
    subst hk
    refine e_c12_codesTold_92 (br_f (by rw [F.1 162 101 (x92_n (by omega)), h101]; exact nI_nlt (Nat.le_refl _) (by omega)) ⟨vp_in_nI (by omega) (by decide), fun u hu => ?_⟩)
    rw [nI_clamp (by omega), c47] at hu
    exact h u (by rw [hu]; exact fr_wI F (x92_t (by omega))) (by rw [hu, rI_wI, if_neg (by omega)]; exact c47) (by rw [hu, rI_wI, if_pos ⟨rfl, rfl⟩]) (fun k hk => by rw [hu, rI_wI, if_neg (by omega)]; exact g k hk hk)
  | succ m ih =>
    intro k s e F c47 g
    have hk : k < l.length := by omega
    refine e_c12_codesTold_92 (br_t (by rw [F.1 162 101 (x92_n (by omega)), h101]; exact nI_lt hk (by omega)) ⟨vp_in_nI (by omega) (by decide), by rw [c47]; exact vp_in_nI (by omega) (by decide), fun u hu v hv => ?_⟩)
    rw [c47, nI_clamp (by omega), nI_clamp (by omega), F.1 237 k (x92_n (by omega)), h237 k hk] at hu
    have u47 : rI u 162 47 = nI (cd + k) := by rw [hu, rI_wI, if_neg (by omega)]; exact c47
    rw [u47, nI_1] at hv
    rw [nI_1]
    refine ih (k + 1) v (by omega) (by rw [hv, hu]; exact fr_wI (fr_wI F (x92_t (by omega))) (x92_t (by omega))) (by rw [hv, rI_wI, if_pos ⟨rfl, rfl⟩, Nat.add_assoc]) (fun j hj hj2 => ?_)
    rw [hv, rI_wI, if_neg (by omega), hu, rI_wI]
    by_cases y : j = k
    · subst y
      rw [if_pos ⟨rfl, rfl⟩]
    · rw [if_neg (by omega)]
      exact g j hj (by omega)
theorem cod_out {s0 s1 s : sT} {b : Nat → Nat} {n i w : Nat} {P P' : pT} {D : dT} {Cp : List Nat} {Q : sT → Prop} (hw : w < 2) (R0 : RO s0 s1 b n P i D) (R : RC s1 s b n w P' Cp [] 0 0 (P.1 + 5)) (h : ∀ s', RO s0 s' b n P' i (dSe D w (true, Cp)) → Q s') : COq w Q s := by
  obtain ⟨q1, q2, q3, q4, ⟨q5, q6⟩, -, -, -, -, q10, -⟩ := R
  obtain ⟨r1, r2, r3, r4, r5, cd, r6, r7⟩ := R0
  have hP := q3.2.1
  have hn := q2.1.1
  have q10 : Cp.length + 0 + (P.1 + 5) ≤ P'.1 + 5 := q10
  have dr : DR s D cd := DR_fr q1 (fun a j q => Bool.eq_false_iff.2 (fun y => by have := xpr_f y; omega)) r7
  have d47 := dr.2.2.2.2.2
  refine br_t q3.1 ⟨vp_in_nI (by omega) (by decide), fun u hu => ?_⟩
  rw [nI_clamp (by omega), d47] at hu
  have Fu : Fr (fun a j => Nat.beq a 197 && Nat.beq j w) s u := by
    rw [hu]
    refine fr_wI fr_rf ?_
    simp only [Bool.and_eq_true, Nat.beq_eq, and_self]
  have n197 : ∀ a j, ¬ (a = 197 ∧ j = w) → (fun a j => Nat.beq a 197 && Nat.beq j w) a j = false := fun a j q => Bool.eq_false_iff.2 (fun y => by
    simp only [Bool.and_eq_true, Nat.beq_eq] at y
    exact q y)
  refine w_copy (l := Cp) (cd := cd) hw (by omega) (by rw [Fu.1 _ _ (n197 _ _ (by omega))]; exact q5) (fun k hk => by rw [Fu.1 _ _ (n197 _ _ (by omega))]; exact q6 k hk) (fun s' F e47 e198 e199 => h s' ?_) Cp.length 0 u (Nat.zero_add _) fr_rf (by rw [Fu.1 _ _ (n197 _ _ (by omega))]; exact d47) (fun j _ hj => absurd hj (Nat.not_lt_zero _))
  -- both writings
  have FF : Fr (fun a j => (Nat.beq a 197 && Nat.beq j w) || X92 cd w a j) s s' := fr_tr (fr_mo Fu fun a j q => by rw [q]; rfl) (fr_mo F fun a j q => by rw [q, Bool.or_true])
  have nn : ∀ a j, ¬ (a = 197 ∧ j = w) → ¬ ((a = 162 ∧ j = 47) ∨ (a = 199 ∧ cd ≤ j ∧ j < 1600) ∨ (a = 198 ∧ j = w)) → (fun a j => (Nat.beq a 197 && Nat.beq j w) || X92 cd w a j) a j = false := fun a j g1 g2 => by
    show ((Nat.beq a 197 && Nat.beq j w) || X92 cd w a j) = false
    rw [x92_n g2, show (Nat.beq a 197 && Nat.beq j w) = false from n197 a j g1]
    rfl
  have FX : Fr XRO s s' := fr_mo FF fun a j q => by
    simp only [Bool.or_eq_true, Bool.and_eq_true, Nat.beq_eq] at q
    rcases q with ⟨rfl, rfl⟩ | q
    · exact xro_t (by omega)
    · unfold X92 at q
      simp only [Bool.or_eq_true, Bool.and_eq_true, Nat.beq_eq, Nat.ble_eq, Nat.blt_eq] at q
      exact xro_t (by omega)
  obtain ⟨g1, g2, g3, g4, g5, g7⟩ := dr
  have fN : foR s' w (cd + Cp.length) (true, Cp) := Or.inr ⟨rfl, cd, by rw [F.1 197 w (x92_n (by omega)), hu, rI_wI, if_pos ⟨rfl, rfl⟩], e198, Nat.le_refl _, e199⟩
  have fO : ∀ w', w' < 2 → w' ≠ w → ∀ c, foR s w' cd c → foR s' w' (cd + Cp.length) c := fun w' h1 h2 c hc => foR_le (foR_fr FF h1 (nn _ _ (by omega) (by omega)) (nn _ _ (by omega) (by omega)) (fun j hj => nn _ _ (by omega) (by omega)) hc) (Nat.le_add_right _ _)
  have m1 : ∀ j, j < 5 → rI s' 193 j = nI (dM D j) := fun j hj => by rw [FF.1 _ _ (nn _ _ (by omega) (by omega))]; exact g1 j hj
  have m2 : ∀ p, p < dM D 2 → rJ s' 194 p = lN (dV D p) ∧ rI s' 195 (2 * p) = nI (dTp D p) ∧ rI s' 195 (2 * p + 1) = nI (dBt D p) := fun p hp => by
    rw [FF.2.1 _ _ (nn _ _ (by omega) (by omega)), FF.1 _ _ (nn _ _ (by omega) (by omega)), FF.1 _ _ (nn _ _ (by omega) (by omega))]
    exact g2 p hp
  have m3 : ∀ k, k < 25 → rI s' 196 k = nI (dTo D k) := fun k hk => by rw [FF.1 _ _ (nn _ _ (by omega) (by omega))]; exact g3 k hk
  refine ⟨fr_tr r1 (fr_tr (fr_mo q1 fun a j q => xro_p q) FX), ⟨TR_fr FF (nn _ _ (by omega) (by omega)) (fun j => nn _ _ (by omega) (by omega)) q2.1, by rw [FF.1 _ _ (nn _ _ (by omega) (by omega))]; exact q2.2⟩, RL_fr FF (nn _ _ (by omega) (by omega)) (nn _ _ (by omega) (by omega)) (nn _ _ (by omega) (by omega)) q3, IC_fr FX oxr_C q4, ?_, cd + Cp.length, by omega, m1, m2, m3, ?_, ?_, e47⟩
  · rw [FF.1 _ _ (nn _ _ (by omega) (by omega)), q1.1 _ _ rfl]
    exact r5
  · have : w = 0 ∨ w = 1 := by omega
    rcases this with rfl | rfl
    · exact fN
    · exact fO 0 (by decide) (by decide) _ g4
  · have : w = 0 ∨ w = 1 := by omega
    rcases this with rfl | rfl
    · exact fO 1 (by decide) (by decide) _ g5
    · exact fN
