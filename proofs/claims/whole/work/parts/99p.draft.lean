-- the draft of an office, in the class, in the reference
abbrev dT : Type := (Nat → Nat) × (Nat → Nat) × (Nat → Nat) × (Nat → Nat) × (Nat → Nat) × (Nat → Nat) × (Bool × List Nat) × (Bool × List Nat)
abbrev dM (D : dT) : Nat → Nat := D.1
abbrev dV (D : dT) : Nat → Nat := D.2.1
abbrev dN (D : dT) : Nat → Nat := D.2.2.1
abbrev dTp (D : dT) : Nat → Nat := D.2.2.2.1
abbrev dBt (D : dT) : Nat → Nat := D.2.2.2.2.1
abbrev dTo (D : dT) : Nat → Nat := D.2.2.2.2.2.1
abbrev dC' (D : dT) : Bool × List Nat := D.2.2.2.2.2.2.1
abbrev dL (D : dT) : Bool × List Nat := D.2.2.2.2.2.2.2
/-- a name in its room -/
def nmI (V n : Nat) : Prop := 1 ≤ n ∧ n ≤ 6 ∧ 27 ^ (n - 1) ≤ V ∧ V < 27 ^ n ∧ V % 27 ≠ 0
def frmI (al : Nat → Bool) (z : Bool) (def0 : Nat) (c : Bool × List Nat) : Prop := c.2.length ≤ 1600 ∧ (c.1 = false → c.2 = [def0]) ∧ tyL al c.2 [] = some [z]
/-- what holds of each draft behind its first statement -/
def dOK (D : dT) : Prop := (2 ≤ dM D 0 ∧ dM D 0 ≤ 24) ∧ (1 ≤ dM D 1 ∧ dM D 1 ≤ 6) ∧ dM D 2 ≤ 6 ∧ dM D 3 ≤ 9 ∧ dM D 4 ≤ 100 ∧ (∀ p, p < dM D 2 → nmI (dV D p) (dN D p) ∧ 1 ≤ dTp D p ∧ dTp D p ≤ 24 ∧ 1 ≤ dBt D p ∧ dBt D p ≤ 24) ∧ (∀ k, dTo D k ≤ 99) ∧ (∀ k, k = 0 ∨ dM D 0 < k → dTo D k = 0) ∧ frmI alC false 40 (dC' D) ∧ frmI alK true 13 (dL D)
def foC (s : sT) (t : Nat) (l : List Nat) : Prop := rI s t 2 = nI l.length ∧ ∀ k (h : k < l.length), rI s (t + 1) k = nI (trc l[k])
def bI (z : Bool) : Int32 := if z = true then 1 else 0
def DC (s : sT) (D : dT) : Prop := (∀ j, j < 5 → rI s 7 j = nI (dM D j)) ∧ rI s 7 5 = bI (dC' D).1 ∧ rI s 7 6 = bI (dL D).1 ∧ (∀ p, p < dM D 2 → rI s 8 p = nI (dV D p * 27 ^ (6 - dN D p)) ∧ rI s 9 p = nI (dTp D p) ∧ rI s 10 p = nI (dBt D p)) ∧ (∀ k, k < 25 → rI s 11 k = nI (dTo D k)) ∧ foC s 12 (dC' D).2 ∧ foC s 15 (dL D).2
def foR (s : sT) (w cd : Nat) (c : Bool × List Nat) : Prop := (c.1 = false ∧ rI s 197 w = (-1 : Int32)) ∨ (c.1 = true ∧ ∃ frm, rI s 197 w = nI frm ∧ rI s 198 w = nI (frm + c.2.length) ∧ frm + c.2.length ≤ cd ∧ ∀ k (h : k < c.2.length), rI s 199 (frm + k) = nI c.2[k])
def DR (s : sT) (D : dT) (cd : Nat) : Prop := (∀ j, j < 5 → rI s 193 j = nI (dM D j)) ∧ (∀ p, p < dM D 2 → rJ s 194 p = lN (dV D p) ∧ rI s 195 (2 * p) = nI (dTp D p) ∧ rI s 195 (2 * p + 1) = nI (dBt D p)) ∧ (∀ k, k < 25 → rI s 196 k = nI (dTo D k)) ∧ foR s 0 cd (dC' D) ∧ foR s 1 cd (dL D) ∧ rI s 162 47 = nI cd
theorem foC_fr {X : Nat → Nat → Bool} {s u : sT} {t : Nat} {l : List Nat} (F : FO X s u) (h1 : X t 2 = false) (h2 : ∀ j, X (t + 1) j = false) (h : foC s t l) : foC u t l := ⟨by rw [F.1 _ _ h1]; exact h.1, fun k hk => by rw [F.1 _ _ (h2 k)]; exact h.2 k hk⟩
theorem DC_fr {X : Nat → Nat → Bool} {s u : sT} {D : dT} (F : FO X s u) (hx : ∀ a j, 7 ≤ a → a ≤ 16 → X a j = false) (h : DC s D) : DC u D := by
  obtain ⟨h1, h2, h3, h4, h5, h6, h7⟩ := h
  have g : ∀ a j, 7 ≤ a → a ≤ 16 → rI u a j = rI s a j := fun a j q1 q2 => F.1 _ _ (hx a j q1 q2)
  refine ⟨fun j q => by rw [g _ _ (by decide) (by decide)]; exact h1 j q, by rw [g _ _ (by decide) (by decide)]; exact h2, by rw [g _ _ (by decide) (by decide)]; exact h3, fun p q => ?_, fun k q => by rw [g _ _ (by decide) (by decide)]; exact h5 k q, foC_fr F (hx _ _ (by decide) (by decide)) (fun j => hx _ _ (by decide) (by decide)) h6, foC_fr F (hx _ _ (by decide) (by decide)) (fun j => hx _ _ (by decide) (by decide)) h7⟩
  rw [g _ _ (by decide) (by decide), g _ _ (by decide) (by decide), g _ _ (by decide) (by decide)]
  exact h4 p q
theorem foR_fr {X : Nat → Nat → Bool} {s u : sT} {w cd : Nat} {c : Bool × List Nat} (F : Fr X s u) (hw : w < 2) (h7 : X 197 w = false) (h8 : X 198 w = false) (h9 : ∀ j, j < cd → X 199 j = false) (h : foR s w cd c) : foR u w cd c := by
  rcases h with ⟨a, b⟩ | ⟨a, frm, b1, b2, b3, b4⟩
  · exact Or.inl ⟨a, by rw [F.1 _ _ h7]; exact b⟩
  · exact Or.inr ⟨a, frm, by rw [F.1 _ _ h7]; exact b1, by rw [F.1 _ _ h8]; exact b2, b3, fun k hk => by rw [F.1 _ _ (h9 _ (by omega))]; exact b4 k hk⟩
theorem DR_fr {X : Nat → Nat → Bool} {s u : sT} {D : dT} {cd : Nat} (F : Fr X s u) (hx : ∀ a j, (193 ≤ a ∧ a ≤ 199) ∨ (a = 162 ∧ j = 47) → X a j = false) (h : DR s D cd) : DR u D cd := by
  obtain ⟨h1, h2, h3, h4, h5, h6⟩ := h
  have g : ∀ a j, (193 ≤ a ∧ a ≤ 199) ∨ (a = 162 ∧ j = 47) → rI u a j = rI s a j := fun a j q => F.1 _ _ (hx a j q)
  refine ⟨fun j q => by rw [g _ _ (by omega)]; exact h1 j q, fun p q => ?_, fun k q => by rw [g _ _ (by omega)]; exact h3 k q, foR_fr F (by decide) (hx _ _ (by omega)) (hx _ _ (by omega)) (fun j _ => hx _ _ (by omega)) h4, foR_fr F (by decide) (hx _ _ (by omega)) (hx _ _ (by omega)) (fun j _ => hx _ _ (by omega)) h5, by rw [g _ _ (by omega)]; exact h6⟩
  rw [F.2.1 _ _ (hx _ _ (by omega)), g _ _ (by omega), g _ _ (by omega)]
  exact h2 p q
/-- what is written -/
def XCO (a _ : Nat) : Bool := Nat.beq a 4 || (Nat.beq a 5 || (Nat.ble 7 a && Nat.ble a 16))
def XRO (a j : Nat) : Bool := (Nat.beq a 162 && (Nat.beq j 2 || (Nat.beq j 4 || (Nat.beq j 5 || (Nat.beq j 6 || (Nat.beq j 10 || (Nat.beq j 39 || (Nat.beq j 47 || (Nat.beq j 48 || (Nat.beq j 50 || (Nat.ble 101 j && Nat.ble j 105))))))))))) || ((Nat.beq a 193 && Nat.blt j 5) || ((Nat.beq a 194 && Nat.blt j 6) || ((Nat.beq a 195 && Nat.blt j 12) || (Nat.beq a 196 || ((Nat.beq a 197 && Nat.blt j 2) || ((Nat.beq a 198 && Nat.blt j 2) || ((Nat.beq a 199 && Nat.blt j 1600) || (Nat.beq a 237 || Nat.beq a 238))))))))
theorem xro_t {a j : Nat} (h : (a = 162 ∧ (j = 2 ∨ j = 4 ∨ j = 5 ∨ j = 6 ∨ j = 10 ∨ j = 39 ∨ j = 47 ∨ j = 48 ∨ j = 50 ∨ (101 ≤ j ∧ j ≤ 105))) ∨ (a = 193 ∧ j < 5) ∨ (a = 194 ∧ j < 6) ∨ (a = 195 ∧ j < 12) ∨ a = 196 ∨ (a = 197 ∧ j < 2) ∨ (a = 198 ∧ j < 2) ∨ (a = 199 ∧ j < 1600) ∨ a = 237 ∨ a = 238) : XRO a j = true := by
  unfold XRO
  simp only [Bool.or_eq_true, Bool.and_eq_true, Nat.beq_eq, Nat.ble_eq, Nat.blt_eq]
  omega
theorem xro_f {a j : Nat} (h : XRO a j = true) : (a = 162 ∧ (j = 2 ∨ j = 4 ∨ j = 5 ∨ j = 6 ∨ j = 10 ∨ j = 39 ∨ j = 47 ∨ j = 48 ∨ j = 50 ∨ (101 ≤ j ∧ j ≤ 105))) ∨ (a = 193 ∧ j < 5) ∨ (a = 194 ∧ j < 6) ∨ (a = 195 ∧ j < 12) ∨ a = 196 ∨ (a = 197 ∧ j < 2) ∨ (a = 198 ∧ j < 2) ∨ (a = 199 ∧ j < 1600) ∨ a = 237 ∨ a = 238 := by
  unfold XRO at h
  simp only [Bool.or_eq_true, Bool.and_eq_true, Nat.beq_eq, Nat.ble_eq, Nat.blt_eq] at h
  omega
theorem xpr_f {a j : Nat} (h : XPR a j = true) : (a = 162 ∧ (j = 2 ∨ j = 4 ∨ j = 5 ∨ j = 6 ∨ j = 10 ∨ j = 39 ∨ j = 101 ∨ j = 103 ∨ j = 104 ∨ j = 105)) ∨ a = 237 ∨ a = 238 := by
  unfold XPR XLR at h
  simp only [Bool.or_eq_true, Bool.and_eq_true, Nat.beq_eq] at h
  omega
theorem xro_p {a j : Nat} (h : XPR a j = true) : XRO a j = true := by
  have := xpr_f h
  exact xro_t (by omega)
theorem xco_45 {a j : Nat} (h : X45 a j = true) : XCO a j = true := by
  unfold X45 at h
  unfold XCO
  simp only [Bool.or_eq_true, Bool.and_eq_true, Nat.beq_eq, Nat.ble_eq] at *
  omega
theorem xco_t {a j : Nat} (h : a = 4 ∨ a = 5 ∨ (7 ≤ a ∧ a ≤ 16)) : XCO a j = true := by
  unfold XCO
  simp only [Bool.or_eq_true, Bool.and_eq_true, Nat.beq_eq, Nat.ble_eq]
  omega
theorem x45_d {a j : Nat} (h1 : 7 ≤ a) : X45 a j = false := by
  rw [Bool.eq_false_iff]
  intro y
  unfold X45 at y
  simp only [Bool.and_eq_true, Nat.beq_eq, Nat.ble_eq] at y
  omega
/-- class, reference, between two statements -/
def CO (s0 s : sT) (b : Nat → Nat) (n : Nat) (P : pT) (D : dT) : Prop := FO XCO s0 s ∧ TCf s b n ∧ CS s b n P ∧ DC s D ∧ dOK D
def CFo (s0 s : sT) (f pl : Nat) : Prop := FO XCO s0 s ∧ rI s 4 4 = nI f ∧ rI s 4 5 = nI pl ∧ 1 ≤ f ∧ f ≤ 5
def RO (s0 s : sT) (b : Nat → Nat) (n : Nat) (P : pT) (i : Nat) (D : dT) : Prop := Fr XRO s0 s ∧ TRf s b n ∧ RLx s b n P ∧ IC s ∧ rI s 162 48 = nI i ∧ ∃ cd, cd ≤ P.1 ∧ DR s D cd
def RFo (s0 s : sT) (f pl : Nat) : Prop := Fr XRO s0 s ∧ RX s f pl
theorem oxr_C : off fIC XRO := fun a j q => by
  unfold fIC at q
  rw [Bool.eq_false_iff]
  intro y
  have := xro_f y
  simp only [Bool.or_eq_true, Bool.and_eq_true, Nat.beq_eq, Nat.ble_eq] at q
  omega
theorem RFo_of {s0 s s' : sT} {b : Nat → Nat} {n i f pl : Nat} {P : pT} {D : dT} (R : RO s0 s b n P i D) (F : Fr XPR s s') (X : RX s' f pl) : RFo s0 s' f pl := ⟨fr_tr R.1 (fr_mo F fun a j q => xro_p q), X⟩
/-- the reference reads on, the draft stays -/
theorem RO_l {s0 s s' : sT} {b : Nat → Nat} {n i : Nat} {P P' : pT} {D : dT} (R : RO s0 s b n P i D) (F : Fr XLS s s') (L : RLx s' b n P') (hP : P.1 ≤ P'.1) : RO s0 s' b n P' i D := by
  obtain ⟨r1, r2, r3, r4, r5, cd, r6, r7⟩ := R
  have F' : Fr XPR s s' := fr_mo F fun a j q => xpr_l (xls_r q)
  exact ⟨fr_tr r1 (fr_mo F' fun a j q => xro_p q), ⟨TR_fr F rfl (fun _ => rfl) r2.1, by rw [F.1 _ _ rfl]; exact r2.2⟩, L, IC_fr F' oxp_C r4, by rw [F.1 _ _ rfl]; exact r5, cd, by omega, DR_fr F' (fun a j q => Bool.eq_false_iff.2 (fun y => by have := xpr_f y; omega)) r7⟩
theorem RO_a {s0 s s' : sT} {b : Nat → Nat} {n i : Nat} {P : pT} {D : dT} (R : RO s0 s b n P i D) (F : Fr XLS s s') (L : RLx s' b n (adv b n P)) : RO s0 s' b n (adv b n P) i D := RO_l R F L (Nat.le_of_lt adv_gt)
theorem RO_2 {s0 s s' : sT} {b : Nat → Nat} {n i : Nat} {P : pT} {D : dT} (R : RO s0 s b n P i D) (F : Fr X2R s s') (N : RN s' b n P) : RO s0 s' b n P i D := RO_l R (fr_mo F fun a j q => xls_2 q) N.1 (Nat.le_refl _)
theorem r_takesO {t : Nat} {l : List Nat} {s0 s : sT} {b : Nat → Nat} {n i : Nat} {P : pT} {D : dT} {Q : Int32 → sT → Prop} (h : (t, l) ∈ wRows) (R : RO s0 s b n P i D) (h1 : tok b n P = tWd l → ∀ s', RO s0 s' b n (adv b n P) i D → Q 1 s') (h0 : tok b n P ≠ tWd l → ∀ s', RO s0 s' b n P i D → Q 0 s') : c12_takes t Q s :=
  r_takes (wl_of R.2.2.2.1 h) (wl_all _ h).2.2.1 R.2.1.1 R.2.2.1 (fun q s' F L => h1 q s' (RO_a R F L)) (fun q s' F N => h0 q s' (RO_2 R F N))
theorem r_asksO {t : Nat} {l : List Nat} {s0 s : sT} {b : Nat → Nat} {n i : Nat} {P : pT} {D : dT} {Q : sT → Prop} (h : (t, l) ∈ wRows) (R : RO s0 s b n P i D) (h1 : tok b n P = tWd l → ∀ s', RO s0 s' b n (adv b n P) i D → Q s') (h0 : tok b n P ≠ tWd l → ∀ s', Fr XPR s s' → RX s' 1 P.1 → Q s') : c12_asks t Q s :=
  r_asks (wl_of R.2.2.2.1 h) (wl_all _ h).2.2.1 R.2.1.1 R.2.2.1 (fun q s' F L => h1 q s' (RO_a R F L)) (fun q s' F X => h0 q s' (fr_mo F fun a j q => xpr_l q) X)
theorem r_numberBad {lo hi : Int32} {Q : Int32 → sT → Prop} {s : sT} (h5 : ¬ rI s 162 5 = 0) (h : Q 0 s) : c12_number lo hi Q s := e_c12_number (br_f h5 h)
theorem r_nameBad {Q : Int64 → sT → Prop} {s : sT} (h5 : ¬ rI s 162 5 = 0) (h : Q 0 s) : c12_name Q s := e_c12_name (br_f h5 h)
theorem r_signBad {c : Int32} {Q : sT → Prop} {s : sT} (h5 : ¬ rI s 162 5 = 0) (h : Q s) : c12_asksSign c Q s := e_c12_asksSign (br_f h5 h)
theorem r_failBad {f pl : Int32} {Q : sT → Prop} {s : sT} (h5 : ¬ rI s 162 5 = 0) (h : Q s) : c12_fail f pl Q s := e_c12_fail (br_f h5 h)
theorem r_haveBad {Q : sT → Prop} {s : sT} (h5 : ¬ rI s 162 5 = 0) (h : Q s) : c12_haveTold Q s := e_c12_haveTold (r_numberBad h5 (r_asksBad h5 (r_numberBad h5 (br_f h5 (br_f h5 h)))))
theorem r_p32Bad {v2 : Int64} {ppl : Nat} {Q : sT → Prop} {s : sT} (h5 : ¬ rI s 162 5 = 0) (hp : ppl ≤ 6) (h2 : rI s 193 2 = nI ppl) (h : Q s) : ∀ m k, k + m = ppl → c12_personTold_32 v2 (nI k) Q s := by
  intro m
  induction m with
  | zero =>
    intro k e
    exact e_c12_personTold_32 (br_f (by rw [h2]; exact nI_nlt (by omega) (by omega)) (r_asksBad h5 (r_numberBad h5 (r_asksBad h5 (r_numberBad h5 (br_f h5 h))))))
  | succ m ih =>
    intro k e
    refine e_c12_personTold_32 (br_t (by rw [h2]; exact nI_lt (by omega) (by omega)) (br_f h5 ?_))
    rw [nI_1]
    exact ih (k + 1) (by omega)
/-- the sign behind a statement -/
def SEMI (Q : sT → Prop) : sT → Prop := fun s => c12_asksSign (59 : Int32) (fun u29 => ∀ u30 : sT, u30 = wI u29 162 48 ((rI u29 162 48) + (1 : Int32)) → Q u30) s
theorem RFo_w {s0 s u : sT} {f pl a j : Nat} {v : Int32} (h : RFo s0 s f pl) (hx : XRO a j = true) (hj : ¬ (a = 162 ∧ (j = 5 ∨ j = 6))) (e : u = wI s a j v) : RFo s0 u f pl := by
  obtain ⟨F, x1, x2, x3, x4⟩ := h
  exact ⟨by rw [e]; exact fr_wI F hx, by rw [e, rI_wI, if_neg (by omega)]; exact x1, x2, x3, by rw [e, rI_wI, if_neg (by omega)]; exact x4⟩
theorem SEMI_bad {s0 s : sT} {f pl : Nat} {Q : sT → Prop} (h : RFo s0 s f pl) (hQ : ∀ s', RFo s0 s' f pl → Q s') : SEMI Q s := r_signBad (RX_n0 h.2) (fun u hu => hQ u (RFo_w h rfl (by omega) hu))
theorem SEMI_go {s0 s : sT} {b : Nat → Nat} {n i : Nat} {P : pT} {D : dT} {Q : sT → Prop} (R : RO s0 s b n P i D) (h1 : tok b n P = tSg 59 → ∀ s', RO s0 s' b n (adv b n P) (i + 1) D → Q s') (h0 : tok b n P ≠ tSg 59 → ∀ s', RFo s0 s' 1 P.1 → Q s') : SEMI Q s := by
  refine r_asksSign (c := 59) (by decide) (by decide) R.2.1.1 R.2.2.1 (fun q s' F L u hu => h1 q u ?_) (fun q s' F X u hu => h0 q u (RFo_w (RFo_of R (fr_mo F fun a j q => xpr_l q) X) rfl (by omega) hu))
  obtain ⟨r1, r2, r3, r4, r5, cd, r6, r7⟩ := RO_a R F L
  rw [r5, nI_1] at hu
  have Fu : Fr (fun a j => Nat.beq a 162 && Nat.beq j 48) s' u := by rw [hu]; exact fr_wI fr_rf rfl
  exact ⟨fr_tr r1 (by rw [hu]; exact fr_wI fr_rf rfl), ⟨TR_fr Fu rfl (fun _ => rfl) r2.1, by rw [Fu.1 _ _ rfl]; exact r2.2⟩, RL_fr Fu rfl rfl rfl r3, IC_fr (X := XRO) (by rw [hu]; exact fr_wI fr_rf rfl) oxr_C r4, by rw [hu, rI_wI, if_pos ⟨rfl, rfl⟩], cd, r6, DR_fr Fu (fun a j q => Bool.eq_false_iff.2 (fun y => by simp only [Bool.and_eq_true, Nat.beq_eq] at y; omega)) r7⟩
