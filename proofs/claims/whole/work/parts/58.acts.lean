-- acts
def swar (v0 : Int32) : Int32 :=
  let x1 : Int32 := (v0 - (((Int32.toUInt32 v0 >>> (Int32.toUInt32 (1 : Int32) &&& Int32.toUInt32 31)).toInt32) &&& (1431655765 : Int32)))
  let x2 : Int32 := ((x1 &&& (858993459 : Int32)) + (((Int32.toUInt32 x1 >>> (Int32.toUInt32 (2 : Int32) &&& Int32.toUInt32 31)).toInt32) &&& (858993459 : Int32)))
  let x3 : Int32 := ((x2 + ((Int32.toUInt32 x2 >>> (Int32.toUInt32 (4 : Int32) &&& Int32.toUInt32 31)).toInt32)) &&& (252645135 : Int32))
  let x4 : Int32 := (x3 + ((Int32.toUInt32 x3 >>> (Int32.toUInt32 (8 : Int32) &&& Int32.toUInt32 31)).toInt32))
  let x5 : Int32 := (x4 + ((Int32.toUInt32 x4 >>> (Int32.toUInt32 (16 : Int32) &&& Int32.toUInt32 31)).toInt32))
  (x5 &&& (63 : Int32))
theorem w_swar {v : Int32} {Q : Int32 → sT → Prop} {s : sT} (h : Q (swar v) s) : cj6_bitCount_0f7a4 v Q s := by
  refine e_cj6_bitCount_0f7a4 (fun x1 h1 x2 h2 x3 h3 x4 h4 x5 h5 => ?_)
  subst h5
  subst h4
  subst h3
  subst h2
  subst h1
  exact h
theorem swar6 : ∀ x, x < 64 → swar (nI x) = nI (pcN x 6) := by decide +kernel
theorem IHm_fr {X : Nat → Nat → Bool} {s t : sT} {fin ppl : Nat} {w : Nat → Nat} {κ : kT} (h : Fr X s t) (hx : off fIH X) (I : IHm s fin ppl w κ) : IHm t fin ppl w κ := by
  have g : ∀ a j, ((43 ≤ a ∧ a ≤ 144) ∨ a = 212 ∨ (a = 162 ∧ (j = 73 ∨ j = 74))) → X a j = false := fun a j q => hx a j (fh_a q)
  obtain ⟨c, d, hf, nw, i1, i2, i3, i4, i5, i6, i7, i8, i9, i10, i11, i12⟩ := I
  refine ⟨c, d, hf, nw, i1, i2, i3, i4, i5, by rw [h.1 _ _ (g _ _ (by omega))]; exact i6, by rw [h.1 _ _ (g _ _ (by omega))]; exact i7, by rw [h.1 _ _ (g _ _ (by omega))]; exact i8, by rw [h.1 _ _ (g _ _ (by omega))]; exact i9, fun k hk => hPr_fr h (fun a j q => g _ _ ?_) (fun j _ _ => g _ _ (by omega)) (i10 k hk), StW_fr h (fun a j p q => g _ _ ?_) i11, KpC_fr h (fun a j q => g _ _ ?_) i12⟩
  · have := Nat.mod_lt (hf + k) (show 0 < 20 by decide)
    omega
  · have := Nat.mod_lt (hf + (d - 1)) (show 0 < 20 by decide)
    omega
  · have := Nat.mod_lt (hf + (d - 1)) (show 0 < 20 by decide)
    omega
/-- what acts write -/
def Xw (a j : Nat) : Bool := Xz a j || ((Nat.ble 38 a && Nat.ble a 144) || (XhR a j || ((Nat.beq a 0 && Nat.beq j 15) || (Nat.beq a 162 && Nat.beq j 75))))
theorem xw_z {a j : Nat} (h : Xz a j = true) : Xw a j = true := by unfold Xw; rw [h]; rfl
theorem xw_38 {a j : Nat} (h : 38 ≤ a ∧ a ≤ 144) : Xw a j = true := by
  unfold Xw
  simp only [Bool.or_eq_true, Bool.and_eq_true, Nat.ble_eq]
  exact Or.inr (Or.inl h)
theorem xw_r {a j : Nat} (h : XhR a j = true) : Xw a j = true := by unfold Xw; rw [h]; simp
theorem xw_c {a j : Nat} (h : XhC a j = true) : Xw a j = true := by
  unfold XhC at h
  simp only [Bool.or_eq_true, Bool.and_eq_true, Nat.beq_eq, Nat.ble_eq] at h
  exact xw_38 (by omega)
theorem xw_d {a j : Nat} (h : Xd 38 a j = true) : Xw a j = true := by
  unfold Xd Xs Xc at h
  simp only [Bool.or_eq_true, Nat.beq_eq, beq_iff_eq] at h
  unfold Xw Xz
  simp only [Bool.or_eq_true, Bool.and_eq_true, Nat.beq_eq, Nat.ble_eq]
  omega
theorem xw_s {a j : Nat} (h : Xs 38 a j = true) : Xw a j = true := xw_d (xd_s h)
theorem ow_of {f : Nat → Nat → Bool} (h : off f Xz) (h1 : ∀ a j, f a j = true → ¬ ((38 ≤ a ∧ a ≤ 144) ∨ a = 212 ∨ (a = 162 ∧ (j = 73 ∨ j = 74 ∨ j = 75)) ∨ (a = 0 ∧ j = 15))) : off f Xw := fun a j q => by
  have z := h a j q
  have y := h1 a j q
  unfold Xw XhR
  rw [z, Bool.false_or, Bool.eq_false_iff]
  intro x
  simp only [Bool.or_eq_true, Bool.and_eq_true, Nat.beq_eq, Nat.ble_eq] at x
  omega
theorem ow_C : off fIC Xw := ow_of oz_C fun a j q => by
  unfold fIC at q
  simp only [Bool.or_eq_true, Bool.and_eq_true, Nat.beq_eq, Nat.ble_eq] at q
  omega
theorem ow_T : off fIT Xw := ow_of oz_T fun a j q => by
  unfold fIT at q
  simp only [Bool.or_eq_true, Bool.and_eq_true, Nat.beq_eq, Nat.ble_eq] at q
  omega
theorem ow_R : off fIR Xw := ow_of oz_R fun a j q => by
  unfold fIR at q
  simp only [Bool.or_eq_true, Bool.and_eq_true, Nat.beq_eq, Nat.ble_eq] at q
  omega
theorem ow_F : off fIF Xw := ow_of oz_F fun a j q => by
  unfold fIF at q
  simp only [Bool.or_eq_true, Bool.and_eq_true, Nat.beq_eq, Nat.ble_eq] at q
  omega
theorem ow_P : off fIP Xw := ow_of oz_P fun a j q => by
  unfold fIP at q
  simp only [Bool.or_eq_true, Bool.and_eq_true, Nat.beq_eq, Nat.ble_eq] at q
  omega
theorem ow_O : off fIO Xw := ow_of oz_O fun a j q => by
  unfold fIO at q
  simp only [Bool.or_eq_true, Bool.and_eq_true, Nat.beq_eq, Nat.ble_eq, Bool.not_eq_true', ← Bool.not_eq_true] at q
  omega
theorem ow_X : off fIX Xw := ow_of oz_X fun a j q => by
  unfold fIX at q
  simp only [Bool.or_eq_true, Bool.and_eq_true, Nat.beq_eq, Nat.ble_eq] at q
  omega
theorem ow_K : off fIK Xw := ow_of oz_K fun a j q => by
  unfold fIK at q
  simp only [Bool.or_eq_true, Bool.and_eq_true, Nat.beq_eq, Nat.ble_eq] at q
  omega
theorem IA_w {s t : sT} {fin most ppl bk mi : Nat} {L : Nat → List Nat} {lc cc : List Nat} {w w' : Nat → Nat} {κ κ' : kT} (I : IA s fin most ppl bk mi L lc cc w κ) (h : Fr Xw s t) (hS : IS t) (hN : IN t fin ppl w' κ') (hH : IH t fin ppl) : IA t fin most ppl bk mi L lc cc w' κ' := by
  obtain ⟨⟨c1, c2, c3, c4, c5, c6⟩, i1, -, i3, i4, i5⟩ := I
  exact ⟨⟨IC_fr h ow_C c1, IT_fr h ow_T c2, IR_fr h ow_R c3, IF_fr h ow_F c4, IP_fr h ow_P c5, hS⟩, IO_fr h ow_O i1, hN, hH, IX_fr h ow_X i4, IK_fr h ow_K i5⟩
theorem stP_V {fin ppl p : Nat} {L : Nat → List Nat} {lc : List Nat} {z : zT} (h : wV fin ppl z.1) (hp : p < ppl) (h24 : fin ≤ 24) : wV fin ppl (stP L lc z p).1 := by
  obtain ⟨h1, h2, h3⟩ := h
  unfold stP
  split
  · refine ⟨fun n => ?_, fun n a b => ?_, fun q a b => ⟨?_, ?_⟩⟩
    · show hgW z.1 p n ≤ 999
      unfold hgW uN
      split
      · split <;> omega
      · exact h1 n
    · show hgW z.1 p n = 0
      rw [hgW_n (by omega)]; exact h2 n a b
    · show hgW z.1 p _ = 0
      rw [hgW_h, if_neg (by omega)]; exact (h3 q a b).1
    · show hgW z.1 p _ = 0
      rw [hgW_t]; exact (h3 q a b).2
  · exact hdV ⟨h1, h2, h3⟩ hp
where
  hdV {fin ppl p x : Nat} {w : Nat → Nat} (h : wV fin ppl w) (hp : p < ppl) : wV fin ppl (hdW w p x) := by
    obtain ⟨h1, h2, h3⟩ := h
    refine ⟨fun n => ?_, fun n a b => ?_, fun q a b => ⟨?_, ?_⟩⟩
    · unfold hdW uN
      split
      · split <;> omega
      · split
        · omega
        · exact Nat.le_trans tkW_le (h1 n)
    · rw [hdW_n (by omega)]
      have := tkW_le (x := x) (w := w) (n := n)
      have := h2 n a b
      omega
    · rw [hdW_h, if_neg (by omega)]; exact (h3 q a b).1
    · rw [hdW_t, if_neg (by omega)]; exact (h3 q a b).2
theorem dayL_V {fin ppl : Nat} {L : Nat → List Nat} {lc : List Nat} (h24 : fin ≤ 24) : ∀ {m p : Nat} {z : zT}, wV fin ppl z.1 → p + m ≤ ppl → wV fin ppl (dayL L lc m p z).1
  | 0, _, _, h, _ => h
  | m + 1, p, z, h, e => dayL_V h24 (m := m) (stP_V h (by omega) h24) (by omega)
theorem dayF_V {fin ppl bk : Nat} {L : Nat → List Nat} {lc : List Nat} {w : Nat → Nat} {κ : kT} (h : wV fin ppl w) (h24 : fin ≤ 24) (h2 : 1 ≤ fin) (h0 : w 0 ≤ 998) : wV fin ppl (dayF L lc ppl bk w κ).1 := by
  obtain ⟨h1, h3, h4⟩ := h
  have g0 : wV fin ppl (day0 bk w κ).1 := by
    refine ⟨fun n => ?_, fun n a b => ?_, fun q a b => ⟨?_, ?_⟩⟩
    · show uN w 1 _ n ≤ 999
      unfold uN
      split
      · split <;> omega
      · exact h1 n
    · show uN w 1 _ n = 0
      rw [uN_ne (by omega)]; exact h3 n a b
    · show uN w 1 _ _ = 0
      rw [uN_ne (by omega)]; exact (h4 q a b).1
    · show uN w 1 _ _ = 0
      rw [uN_ne (by omega)]; exact (h4 q a b).2
  obtain ⟨g1, g2, g3⟩ := dayL_V (L := L) (lc := lc) h24 (m := ppl) (p := 0) g0 (by omega)
  have e0 := dayF_0 (L := L) (lc := lc) (ppl := ppl) (bk := bk) (w := w) (κ := κ)
  have en : ∀ n, n ≠ 0 → (dayF L lc ppl bk w κ).1 n = (dayL L lc ppl 0 (day0 bk w κ)).1 n := fun n hn => by
    unfold dayF
    dsimp only
    rw [uN_ne hn]
  refine ⟨fun n => ?_, fun n a b => ?_, fun q a b => ⟨?_, ?_⟩⟩
  · by_cases z : n = 0
    · subst z; rw [e0]; omega
    · rw [en n z]; exact g1 n
  · rw [en n (by omega)]; exact g2 n a b
  · rw [en _ (by omega)]; exact (g3 q a b).1
  · rw [en _ (by omega)]; exact (g3 q a b).2
theorem dIt_V {fin ppl bk : Nat} {L : Nat → List Nat} {lc : List Nat} (h24 : fin ≤ 24) (h2 : 1 ≤ fin) : ∀ {n : Nat} {z : zT}, wV fin ppl z.1 → z.1 0 + n ≤ 999 → wV fin ppl (dIt L lc ppl bk n z).1
  | 0, _, h, _ => h
  | n + 1, z, h, e => dIt_V h24 h2 (n := n) (dayF_V h h24 h2 (by omega)) (by show (dayF L lc ppl bk z.1 z.2.1).1 0 + n ≤ 999; rw [dayF_0]; omega)
/-- class: days, one behind the other, in what is now -/
theorem w_days_29 {fin ppl bk n : Nat} {L : Nat → List Nat} {lc : List Nat} {Q : Int32 → sT → Prop} {s : sT} (C : OCc s fin ppl bk L lc) (hn : n ≤ 100) : ∀ m i (z : zT) s', i + m = n → Fr (Xd 38) s s' → StW s' 38 z.1 → KpC s' 38 z.2.1 → wM z.1 → z.1 0 + m ≤ 999 → (∀ s'', Fr (Xd 38) s s'' → StW s'' 38 (dIt L lc ppl bk m z).1 → KpC s'' 38 (dIt L lc ppl bk m z).2.1 → Q (nI (dIt L lc ppl bk m z).2.2) s'') → c11_days_29 (nI n) (nI z.2.2) (nI i) Q s'
  | 0, i, z, s', e, F, W, K, hM, h0, h => by
    have e : i = n := e
    subst e
    exact e_c11_days_29 (br_f (nI_nlt (Nat.le_refl _) (by omega)) (h s' F W K))
  | m + 1, i, z, s', e, F, W, K, hM, h0, h => by
    refine e_c11_days_29 (br_t (nI_lt (by omega) (by omega)) ?_)
    refine w_passDay (Or.inl rfl) (OCc_d (Or.inl rfl) F C) W K hM (by omega) (fun u g1 g2 g3 => w_swar (fun x hx => ?_))
    have hw6 := dayF_w (L := L) (lc := lc) (ppl := ppl) (bk := bk) (w := z.1) (κ := z.2.1) C.2.1
    rw [swar6 _ hw6, nI_add] at hx
    rw [hx, nI_1]
    exact w_days_29 C hn m (i + 1) ((dayF L lc ppl bk z.1 z.2.1).1, (dayF L lc ppl bk z.1 z.2.1).2.1, z.2.2 + pcN (dayF L lc ppl bk z.1 z.2.1).2.2 6) u (by omega) (fr_tr F g1) g2 g3 (dayF_M hM (by omega)) (by show (dayF L lc ppl bk z.1 z.2.1).1 0 + m ≤ 999; rw [dayF_0]; omega) h
theorem dcbC_t {fin n w0 : Nat} {Q : Int32 → sT → Prop} {s : sT} (hF : rI s 21 0 = nI fin) (h24 : fin ≤ 24) (hf : 1 ≤ fin) (hd : rI s 38 0 = nI w0) (h1 : 1 ≤ n) (h2 : n ≤ 100) (h0 : w0 + n ≤ 999) (q : Q 1 s) : c11_daysCanBe (nI n) Q s :=
  e_c11_daysCanBe (offC_t hF h24 hf (yes1 (br_f (nI_nlt (b := 1) h1 (by omega)) (br_f (nI_nlt (a := 100) h2 (by decide)) (br_f (by rw [hd, nI_add]; exact nI_nlt (a := 999) h0 (by decide)) q)))))
theorem dcbC_f {fin w0 : Nat} {v : Int32} {Q : Int32 → sT → Prop} {s : sT} (hF : rI s 21 0 = nI fin) (h24 : fin ≤ 24) (hd : rI s 38 0 = nI w0) (hw : w0 ≤ 999) (hn : fin = 0 ∨ ¬ ∃ n, 1 ≤ n ∧ n ≤ 100 ∧ w0 + n ≤ 999 ∧ v = nI n) (q : Q 0 s) : c11_daysCanBe v Q s := by
  refine e_c11_daysCanBe ?_
  by_cases hf : fin = 0
  · subst hf
    exact offC_f hF (no0 q)
  · refine offC_t hF h24 (by omega) (yes1 (br_c (fun _ => q) (fun q1 => br_c (fun _ => q) (fun q2 => br_c (fun _ => q) (fun q3 => ?_)))))
    rcases hn with z | z
    · exact absurd z hf
    rw [fa_lt, l1] at q1
    rw [fa_lt] at q2
    have q2' : ¬ (100 : Int) < v.toInt := q2
    have e : v = nI v.toInt.toNat := i_nI (by omega) (by omega)
    rw [hd, e, nI_add, show (999 : Int32) = nI 999 from rfl, nI_ltI (by decide) (by omega)] at q3
    exact absurd ⟨v.toInt.toNat, by omega, by omega, by omega, e⟩ z
theorem off_h_d {a j : Nat} (h : fIH a j = true) : Xd 38 a j = false := by
  rw [Bool.eq_false_iff]
  intro z
  unfold Xd Xs Xc at z
  unfold fIH at h
  simp only [Bool.or_eq_true, Bool.and_eq_true, Nat.beq_eq, Nat.ble_eq, beq_iff_eq] at h z
  omega
theorem off_h_q {a j : Nat} (h : fIH a j = true) : Xq a j = false := by
  rw [Bool.eq_false_iff]
  intro z
  unfold Xq at z
  unfold fIH at h
  simp only [Bool.or_eq_true, Bool.and_eq_true, Nat.beq_eq, Nat.ble_eq] at h z
  omega
theorem xhC_f {a j : Nat} (h : ¬ (a = 43 ∨ (45 ≤ a ∧ a ≤ 144))) : XhC a j = false := by
  rw [Bool.eq_false_iff]
  intro z
  unfold XhC at z
  simp only [Bool.or_eq_true, Bool.and_eq_true, Nat.beq_eq, Nat.ble_eq] at z
  exact h z
theorem xhR_f {a j : Nat} (h : ¬ (a = 212 ∨ (a = 162 ∧ (j = 73 ∨ j = 74)))) : XhR a j = false := by
  rw [Bool.eq_false_iff]
  intro z
  unfold XhR at z
  simp only [Bool.or_eq_true, Bool.and_eq_true, Nat.beq_eq] at z
  exact h z
theorem xd38_f {a j : Nat} (h : ¬ (38 ≤ a ∧ a ≤ 42)) (h1 : a ≠ 146) (h2 : a ≠ 31) : Xd 38 a j = false := xd_f (by omega) h1 h2
theorem k148_fr {X : Nat → Nat → Bool} {s t : sT} (h : Fr X s t) (hx : ∀ a j, a = 148 ∨ a = 152 → X a j = false) (K : ∃ κ, KpC s 148 κ) : ∃ κ, KpC t 148 κ := by
  obtain ⟨κ, K⟩ := K
  exact ⟨κ, KpC_fr h (fun a j q => hx a j (by omega)) K⟩
theorem op_days {s : sT} (v : Int32) (I : Inv s) : two Inv (c11_days v) (c12_days v) s := by
  obtain ⟨fin, most, ppl, bk, mi, L, lc, cc, w, κ, I⟩ := I
  have I2 := I
  obtain ⟨⟨-, -, -, -, -, cS⟩, io, ⟨n1, n2, n3, n4, n5, n6, n7⟩, ih, -⟩ := I2
  have io2 := io
  obtain ⟨-, -, -, -, -, -, -, OC, OR, -⟩ := io2
  have hd0 := n3.1 0
  have h24 := OC.1
  by_cases ok : 1 ≤ fin ∧ ∃ n, 1 ≤ n ∧ n ≤ 100 ∧ w 0 + n ≤ 999 ∧ v = nI n
  · obtain ⟨hf, n, g1, g2, g3, rfl⟩ := ok
    have ht := (IO_told io (by omega)).2.1
    refine e_c11_days (dcbC_t OC.2.2.2.1 h24 hf n1.1 g1 g2 g3 (yes1 (w_keepC ih n1 n4 (fun s1 F1 H1 => ?_))))
    have OC1 : OCc s1 fin ppl bk L lc := OCc_fr F1 (fun a j p q r => xhC_f (by omega)) OC
    refine w_days_29 OC1 g2 n 0 (w, κ, 0) s1 (Nat.zero_add _) fr_rf (StW_fr F1 (fun a j p q => xhC_f (by omega)) n1) (KpC_fr F1 (fun a j q => xhC_f (by omega)) n4) (wV_M n3) g3 (fun s2 F2 W2 K2 => ?_)
    have H2 : IHm s2 fin ppl w κ := IHm_fr F2 (fun a j q => off_h_d q) H1
    have r2 : ∀ a j, ¬ (38 ≤ a ∧ a ≤ 144) → a ≠ 146 → a ≠ 31 → rI s2 a j = rI s a j := fun a j p q r => by
      rw [F2.1 _ _ (xd38_f (by omega) q r), F1.1 _ _ (xhC_f (by omega))]
    have N2 : NwW s2 w := fun k hk => by rw [r2 _ _ (by omega) (by omega) (by omega)]; exact n2 k hk
    have KR2 : KpR s2 κ := KpR_of (fun j _ => r2 _ _ (by omega) (by omega) (by omega)) n5
    refine e_c12_days (ahR_t (lo := 1) (hi := 100) (by rw [r2 _ _ (by omega) (by omega) (by omega)]; exact ht) (N2 0 (by omega)) g1 g2 (by decide) g3 (yes1 (w_keepsR H2 n3 N2 KR2 (fun s3 F3 H3 => ?_))))
    have r3 : ∀ a j, ¬ (38 ≤ a ∧ a ≤ 144) → a ≠ 146 → a ≠ 31 → a ≠ 212 → ¬ (a = 162 ∧ (j = 73 ∨ j = 74)) → rI s3 a j = rI s a j := fun a j p q r x y => by rw [F3.1 _ _ (xhR_f (by omega)), r2 a j p q r]
    have OR3 : OCr s3 fin ppl bk L lc := OCr_fr F3 (fun a j q => xhR_f (by omega)) (OCr_fr F2 (fun a j q => xd38_f (by omega) (by omega) (by omega)) (OCr_fr F1 (fun a j q => xhC_f (by omega)) OR))
    refine w_daysGo (κ := κ) (th := false) OR3 (by rw [r3 _ _ (by omega) (by omega) (by omega) (by omega) (by omega)]; exact n6) g2 (NwW_fr F3 (fun _ _ => xhR_f (by omega)) N2) (fun _ => KpR_of (fun j _ => F3.1 _ _ (xhR_f (by omega))) KR2) (wV_M n3) (by omega) (fun s4 F4 N4 T4 e4 => ⟨e4.symm, ?_⟩)
    have F : Fr Xw s s4 := fr_tr (fr_tr (fr_mo F1 fun a j q => xw_c q) (fr_mo F2 fun a j q => xw_d q)) (fr_tr (fr_mo F3 fun a j q => xw_r q) (fr_mo F4 fun a j q => xw_z (xz_q q)))
    have hV := dIt_V (L := L) (lc := lc) (bk := bk) h24 hf (n := n) (z := (w, κ, 0)) n3 g3
    refine IA_Inv (IA_w I F ?_ ⟨?_, N4, hV, ?_, T4.2 rfl, ?_, ?_⟩ (IH_fr F4 (fun a j q => off_h_q q) H3))
    · refine IS_fr F4 (fun a j q => ?_) (IS_fr F3 (fun a j q => ?_) (IS_fr F2 (fun a j q => ?_) (IS_fr F1 (fun a j q => ?_) cS)))
      all_goals
        unfold fIS at q
        simp only [Bool.or_eq_true, Bool.and_eq_true, Nat.beq_eq] at q
        rcases q with ⟨rfl, rfl⟩ | ⟨rfl, rfl⟩ <;> rfl
    · exact StW_fr F4 (fun a j p q => xq_f (by omega) (by omega) (by omega)) (StW_fr F3 (fun a j p q => xhR_f (by omega)) W2)
    · exact KpC_fr F4 (fun a j q => xq_f (by omega) (by omega) (by omega)) (KpC_fr F3 (fun a j q => xhR_f (by omega)) K2)
    · rw [F4.1 _ _ rfl, r3 _ _ (by omega) (by omega) (by omega) (by omega) (by omega)]; exact n6
    · exact k148_fr F4 (fun a j q => xq_f (by omega) (by omega) (by omega)) (k148_fr F3 (fun a j q => xhR_f (by omega)) (k148_fr F2 (fun a j q => xd38_f (by omega) (by omega) (by omega)) (k148_fr F1 (fun a j q => xhC_f (by omega)) n7)))
  · have hno : fin = 0 ∨ ¬ ∃ n, 1 ≤ n ∧ n ≤ 100 ∧ w 0 + n ≤ 999 ∧ v = nI n := by
      by_cases z : fin = 0
      · exact Or.inl z
      · exact Or.inr (fun y => ok ⟨by omega, y⟩)
    refine e_c11_days (dcbC_f OC.2.2.2.1 h24 n1.1 hd0 hno (no0 (refC (k := 3) (by decide) ?_)))
    refine e_c12_days (ahR_f (lo := 1) (hi := 100) (w0 := w 0) (by rw [rI_wI, if_neg (by omega)]; exact n2 0 (by omega)) hd0 (by decide) (by decide) ?_ (no0 (refR (k := 3) (by decide) ⟨rfl, Inv_bump (IA_Inv I)⟩)))
    rcases hno with z | z
    · exact Or.inl (by rw [rI_wI, if_neg (by omega)]; exact (IO_not io z).2.2)
    · exact Or.inr z
