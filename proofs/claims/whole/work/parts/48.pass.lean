-- a day
abbrev zT : Type := (Nat → Nat) × kT × Nat
def stP (L : Nat → List Nat) (lc : List Nat) (z : zT) (p : Nat) : zT :=
  if chs (L p) (gdB lc z.1 p) = 0 then (hgW z.1 p, z.2.1, z.2.2) else (hdW z.1 p (chs (L p) (gdB lc z.1 p)), kA z.2.1 (z.1 0) p (chs (L p) (gdB lc z.1 p)), z.2.2 ||| 2 ^ p)
def dayL (L : Nat → List Nat) (lc : List Nat) : Nat → Nat → zT → zT
  | 0, _, z => z
  | m + 1, p, z => dayL L lc m (p + 1) (stP L lc z p)
def day0 (bk : Nat) (w : Nat → Nat) (κ : kT) : zT := (uN w 1 (if w 1 + bk < 999 then w 1 + bk else 999), κ, 0)
def dayF (L : Nat → List Nat) (lc : List Nat) (ppl bk : Nat) (w : Nat → Nat) (κ : kT) : zT :=
  (uN (dayL L lc ppl 0 (day0 bk w κ)).1 0 ((dayL L lc ppl 0 (day0 bk w κ)).1 0 + 1), (dayL L lc ppl 0 (day0 bk w κ)).2)
/-- numbers as they are: the day, pieces, hunger, times -/
def wM (w : Nat → Nat) : Prop := w 0 ≤ 2000 ∧ ∀ n, 1 ≤ n → w n ≤ 999
theorem wM_B {w : Nat → Nat} (h : wM w) : wB w := fun n => by
  rcases Nat.eq_zero_or_pos n with q | q
  · subst q; have := h.1; omega
  · have := h.2 n q; omega
theorem tkW_le {x : Nat} {w : Nat → Nat} {n : Nat} : tkW x w n ≤ w n := by
  unfold tkW
  split <;> omega
theorem uN_M {w : Nat → Nat} {k v : Nat} (h : wM w) (hk : 1 ≤ k) (hv : v ≤ 999) : wM (uN w k v) := by
  refine ⟨?_, fun n hn => ?_⟩
  · unfold uN; rw [if_neg (by omega)]; exact h.1
  · unfold uN
    split
    · exact hv
    · exact h.2 n hn
theorem tkW_M {w : Nat → Nat} {x : Nat} (h : wM w) : wM (tkW x w) := ⟨Nat.le_trans tkW_le h.1, fun n hn => Nat.le_trans tkW_le (h.2 n hn)⟩
theorem hdW_M {w : Nat → Nat} {p x : Nat} (h : wM w) : wM (hdW w p x) := uN_M (uN_M (tkW_M h) (by omega) (by omega)) (by omega) (by split <;> omega)
theorem hgW_M {w : Nat → Nat} {p : Nat} (h : wM w) : wM (hgW w p) := uN_M h (by omega) (by split <;> omega)
theorem stP_M {L : Nat → List Nat} {lc : List Nat} {z : zT} {p : Nat} (h : wM z.1) : wM (stP L lc z p).1 := by
  unfold stP
  split
  · exact hgW_M h
  · exact hdW_M h
theorem stP_0 {L : Nat → List Nat} {lc : List Nat} {z : zT} {p : Nat} : (stP L lc z p).1 0 = z.1 0 := by
  unfold stP
  split
  · exact hgW_n (by omega)
  · exact hdW_0
theorem stP_w {L : Nat → List Nat} {lc : List Nat} {z : zT} {p : Nat} (hp : p < 6) (h : z.2.2 < 2 ^ 6) : (stP L lc z p).2.2 < 2 ^ 6 := by
  unfold stP
  split
  · exact h
  · exact Nat.or_lt_two_pow h (Nat.pow_lt_pow_right (by decide) hp)
theorem dayL_M {L : Nat → List Nat} {lc : List Nat} : ∀ {m p : Nat} {z : zT}, wM z.1 → wM (dayL L lc m p z).1
  | 0, _, _, h => h
  | m + 1, p, z, h => dayL_M (m := m) (stP_M h)
theorem dayL_0 {L : Nat → List Nat} {lc : List Nat} : ∀ {m p : Nat} {z : zT}, (dayL L lc m p z).1 0 = z.1 0
  | 0, _, _ => rfl
  | m + 1, p, z => (dayL_0 (m := m)).trans stP_0
theorem dayL_w {L : Nat → List Nat} {lc : List Nat} : ∀ {m p : Nat} {z : zT}, p + m ≤ 6 → z.2.2 < 2 ^ 6 → (dayL L lc m p z).2.2 < 2 ^ 6
  | 0, _, _, _, h => h
  | m + 1, p, z, e, h => dayL_w (m := m) (by omega) (stP_w (by omega) h)
theorem day0_M {bk : Nat} {w : Nat → Nat} {κ : kT} (h : wM w) : wM (day0 bk w κ).1 := uN_M h (by omega) (by split <;> omega)
theorem uN_ne {w : Nat → Nat} {k v j : Nat} (h : j ≠ k) : uN w k v j = w j := by
  unfold uN
  rw [if_neg h]
theorem uN_eq {w : Nat → Nat} {k v : Nat} : uN w k v k = v := by
  unfold uN
  rw [if_pos rfl]
theorem day0_0 {bk : Nat} {w : Nat → Nat} {κ : kT} : (day0 bk w κ).1 0 = w 0 := by
  unfold day0
  dsimp only
  rw [uN_ne (by decide)]
theorem dayF_0 {L : Nat → List Nat} {lc : List Nat} {ppl bk : Nat} {w : Nat → Nat} {κ : kT} : (dayF L lc ppl bk w κ).1 0 = w 0 + 1 := by
  unfold dayF
  dsimp only
  rw [uN_eq, dayL_0, day0_0]
theorem dayF_w {L : Nat → List Nat} {lc : List Nat} {ppl bk : Nat} {w : Nat → Nat} {κ : kT} (h : ppl ≤ 6) : (dayF L lc ppl bk w κ).2.2 < 2 ^ 6 := dayL_w (z := day0 bk w κ) (by omega) (Nat.two_pow_pos 6)
theorem dayF_M {L : Nat → List Nat} {lc : List Nat} {ppl bk : Nat} {w : Nat → Nat} {κ : kT} (h : wM w) (h0 : w 0 < 2000) : wM (dayF L lc ppl bk w κ).1 := by
  have h1 := dayL_M (L := L) (lc := lc) (m := ppl) (p := 0) (day0_M (bk := bk) (κ := κ) h)
  refine ⟨by rw [dayF_0]; omega, fun n hn => ?_⟩
  unfold dayF
  dsimp only
  rw [uN_ne (by omega)]
  exact h1.2 n hn
/-- the office as the class holds it, as far as a day asks -/
def OCc (s : sT) (fin ppl bk : Nat) (L : Nat → List Nat) (lc : List Nat) : Prop := fin ≤ 24 ∧ ppl ≤ 6 ∧ bk ≤ 9 ∧ rI s 21 0 = nI fin ∧ rI s 21 2 = nI ppl ∧ rI s 21 3 = nI bk ∧ (0 < ppl → likC s lc) ∧ ∀ p, p < ppl → wayC s p (L p) ∧ ∀ x ∈ L p, x < 2 ^ fin
theorem OCc_fr {X : Nat → Nat → Bool} {s t : sT} {fin ppl bk : Nat} {L : Nat → List Nat} {lc : List Nat} (h : Fr X s t) (h1 : ∀ a j, 21 ≤ a → a ≤ 33 → a ≠ 31 → X a j = false) (C : OCc s fin ppl bk L lc) : OCc t fin ppl bk L lc := by
  obtain ⟨c1, c2, c3, c4, c5, c6, c7, c8⟩ := C
  have g : ∀ a j, 21 ≤ a → a ≤ 33 → a ≠ 31 → rI t a j = rI s a j := fun a j p q r => h.1 a j (h1 a j p q r)
  refine ⟨c1, c2, c3, ?_, ?_, ?_, fun q => likC_fr h (fun j => h1 _ _ (by decide) (by decide) (by decide)) (fun j => h1 _ _ (by decide) (by decide) (by decide)) (c7 q), fun p hp => ⟨wayC_fr h (fun j => h1 _ _ (by decide) (by decide) (by decide)) (fun j => h1 _ _ (by decide) (by decide) (by decide)) (c8 p hp).1, (c8 p hp).2⟩⟩
  · rw [g 21 0 (by decide) (by decide) (by decide)]; exact c4
  · rw [g 21 2 (by decide) (by decide) (by decide)]; exact c5
  · rw [g 21 3 (by decide) (by decide) (by decide)]; exact c6
def Xd (t : Nat) (a j : Nat) : Bool := Xs t a j || Xc a j
theorem xd_s {t a j : Nat} (h : Xs t a j = true) : Xd t a j = true := by unfold Xd; rw [h]; rfl
theorem xd_c {t a j : Nat} (h : Xc a j = true) : Xd t a j = true := by unfold Xd; rw [h, Bool.or_true]
theorem xd_f {t a j : Nat} (h : a < t ∨ t + 4 < a) (h1 : a ≠ 146) (h2 : a ≠ 31) : Xd t a j = false := by
  unfold Xd
  rw [xs_f h, Bool.false_or]
  unfold Xc
  simp [h1, h2]
theorem OCc_d {t : Nat} {s s' : sT} {fin ppl bk : Nat} {L : Nat → List Nat} {lc : List Nat} (ht : t = 38 ∨ t = 148) (h : Fr (Xd t) s s') (C : OCc s fin ppl bk L lc) : OCc s' fin ppl bk L lc :=
  OCc_fr h (fun a j h1 h2 h3 => xd_f (by omega) (by omega) h3) C
theorem StW_fr {X : Nat → Nat → Bool} {s s' : sT} {t : Nat} {w : Nat → Nat} (h : Fr X s s') (hx : ∀ a j, t ≤ a → a ≤ t + 3 → X a j = false) (W : StW s t w) : StW s' t w := by
  obtain ⟨a, b, c, d, e⟩ := W
  refine ⟨?_, ?_, fun n h1 h2 => ?_, fun p hp => ?_, fun p hp => ?_⟩
  · rw [h.1 _ _ (hx _ _ (by omega) (by omega))]; exact a
  · rw [h.1 _ _ (hx _ _ (by omega) (by omega))]; exact b
  · rw [h.1 _ _ (hx _ _ (by omega) (by omega))]; exact c n h1 h2
  · rw [h.1 _ _ (hx _ _ (by omega) (by omega))]; exact d p hp
  · rw [h.1 _ _ (hx _ _ (by omega) (by omega))]; exact e p hp
theorem KpC_fr {X : Nat → Nat → Bool} {s s' : sT} {t : Nat} {κ : kT} (h : Fr X s s') (hx : ∀ a j, a = t ∨ a = t + 4 → X a j = false) (K : KpC s t κ) : KpC s' t κ := by
  obtain ⟨a, b, f, c, d, e⟩ := K
  refine ⟨?_, b, f, c, ?_, fun k hk j hj => ?_⟩
  · rw [h.1 _ _ (hx _ _ (by omega))]; exact a
  · rw [h.1 _ _ (hx _ _ (by omega))]; exact d
  · rw [h.1 _ _ (hx _ _ (by omega))]; exact e k hk j hj
theorem w_day_16 {t fin ppl bk : Nat} {L : Nat → List Nat} {lc : List Nat} {Q : Int32 → sT → Prop} {s : sT} (ht : t = 38 ∨ t = 148) (C : OCc s fin ppl bk L lc) : ∀ m p (z : zT) s', p + m = ppl → Fr (Xd t) s s' → StW s' t z.1 → KpC s' t z.2.1 → wM z.1 → z.2.2 < 2 ^ 6 → z.1 0 ≤ 998 → (∀ s'', Fr (Xd t) s s'' → StW s'' t (uN (dayL L lc m p z).1 0 (z.1 0 + 1)) → KpC s'' t (dayL L lc m p z).2.1 → Q (nI (dayL L lc m p z).2.2) s'') → c0_passDay_16 t (nI z.2.2) (nI p) Q s'
  | 0, p, z, s', e, hr, W, K, hM, hz, h0, h => by
    have e : p = ppl := e
    subst e
    have c5 := (OCc_d ht hr C).2.2.2.2.1
    have c2 := C.2.1
    refine e_c0_passDay_16 (br_f ?_ (fun u hu => ?_))
    · rw [c5]; exact nI_nlt (Nat.le_refl _) (by omega)
    rw [W.1, nI_1, min_nI (c := (999 : Int32)) (b := 999) rfl (by omega) (by decide)] at hu
    have e0 : (if z.1 0 + 1 < 999 then z.1 0 + 1 else 999) = z.1 0 + 1 := by split <;> omega
    rw [e0] at hu
    have r : ∀ a j, rI u a j = if a = t ∧ j = 0 then nI (z.1 0 + 1) else rI s' a j := fun a j => by rw [hu, rI_wI]
    refine h u (by rw [hu]; exact fr_wI hr (xd_s (xs_t (Or.inl rfl)))) ?_ ?_
    · show StW u t (uN z.1 0 (z.1 0 + 1))
      obtain ⟨W0, W1, W2, W3, W4⟩ := W
      refine ⟨?_, ?_, fun n h1 h2 => ?_, fun q hq => ?_, fun q hq => ?_⟩
      · rw [r, if_pos ⟨rfl, rfl⟩]; rfl
      · rw [r, if_neg (by omega)]; exact W1
      · rw [r, if_neg (by omega), W2 n h1 h2]; unfold uN; rw [if_neg (by omega)]
      · rw [r, if_neg (by omega), W3 q hq]; unfold uN; rw [if_neg (by omega)]
      · rw [r, if_neg (by omega), W4 q hq]; unfold uN; rw [if_neg (by omega)]
    · show KpC u t z.2.1
      obtain ⟨K1, K2, f, K3, K4, K5⟩ := K
      exact ⟨by rw [r, if_neg (by omega)]; exact K1, K2, f, K3, by rw [r, if_neg (by omega)]; exact K4, fun k hk j hj => by rw [r, if_neg (by omega)]; exact K5 k hk j hj⟩
  | m + 1, p, z, s', e, hr, W, K, hM, hz, h0, h => by
    have C' := OCc_d ht hr C
    obtain ⟨c1, c2, c3, c4, c5, c6, c7, c8⟩ := C'
    have hp : p < ppl := by omega
    obtain ⟨cw, cx⟩ := c8 p hp
    have hp6 : p < 6 := by omega
    refine e_c0_passDay_16 (br_t (by rw [c5]; exact nI_lt hp (by omega)) ?_)
    refine w_choose ht (c7 (by omega)) cw W.1 W.2.2.1 (W.2.2.2.1 p hp6) (wM_B hM) c4 c1 cx (fun s1 hs1 => ?_)
    have hr1 : Fr (Xd t) s s1 := fr_tr hr (fr_mo hs1 (fun a j q => xd_c q))
    have W1 : StW s1 t z.1 := StW_fr hs1 (fun a j h1 h2 => by unfold Xc; simp; omega) W
    have K1 : KpC s1 t z.2.1 := KpC_fr hs1 (fun a j h1 => by unfold Xc; simp; omega) K
    have hN : ∀ s2, Fr (Xd t) s s2 → StW s2 t (stP L lc z p).1 → KpC s2 t (stP L lc z p).2.1 → c0_passDay_16 t (nI (stP L lc z p).2.2) (nI (p + 1)) Q s2 := fun s2 g1 g2 g3 =>
      w_day_16 ht C m (p + 1) (stP L lc z p) s2 (by omega) g1 g2 g3 (stP_M hM) (stP_w hp6 hz) (by rw [stP_0]; exact h0) (fun s'' k1 k2 k3 => h s'' k1 (by rw [stP_0] at k2; exact k2) k3)
    unfold stP at hN
    have hxlt : chs (L p) (gdB lc z.1 p) < 2 ^ 24 := by
      rcases chs_mem (L := L p) (g := gdB lc z.1 p) with q | q
      · rw [q]; decide
      · exact (cw.2.2.2.2 _ q.1).2
    refine br_c (fun q => ?_) (fun q => ?_)
    · have q' : chs (L p) (gdB lc z.1 p) = 0 := by
        rw [show (0 : Int32) = nI 0 from rfl, nI_eq (by omega) (by decide)] at q
        exact q
      rw [if_pos q'] at hN
      refine w_hungry hp6 W1 K1 (wM_B hM) (fun s2 g1 g2 g3 => ?_)
      rw [nI_1]
      exact hN s2 (fr_tr hr1 (fr_mo g1 (fun a j q => xd_s q))) g2 g3
    · have q' : ¬ chs (L p) (gdB lc z.1 p) = 0 := fun y => q (by rw [y]; rfl)
      rw [if_neg q'] at hN
      have hsb : sB (chs (L p) (gdB lc z.1 p)) (fun n => decide (0 < z.1 n)) = true := by
        rcases chs_mem (L := L p) (g := gdB lc z.1 p) with y | y
        · exact absurd y q'
        · have := sB_iff.1 y.2
          rw [sB_iff]
          intro i hi hb
          have := this i hi hb
          unfold gdB at this
          rw [Bool.and_eq_true] at this
          exact this.1
      refine w_hand hp6 hxlt W1 K1 (wM_B hM) hsb (fun s2 g1 g2 g3 x hx => ?_)
      rw [one_shl (by omega), nI_or] at hx
      rw [hx, nI_1]
      exact hN s2 (fr_tr hr1 (fr_mo g1 (fun a j q => xd_s q))) g2 g3
/-- a day passes, in the class -/
theorem w_passDay {t fin ppl bk : Nat} {L : Nat → List Nat} {lc : List Nat} {w : Nat → Nat} {κ : kT} {Q : Int32 → sT → Prop} {s : sT} (ht : t = 38 ∨ t = 148) (C : OCc s fin ppl bk L lc) (W : StW s t w) (K : KpC s t κ) (hM : wM w) (h0 : w 0 ≤ 998) (h : ∀ s', Fr (Xd t) s s' → StW s' t (dayF L lc ppl bk w κ).1 → KpC s' t (dayF L lc ppl bk w κ).2.1 → Q (nI (dayF L lc ppl bk w κ).2.2) s') : c0_passDay t Q s := by
  have c6 := C.2.2.2.2.2.1
  have c3 := C.2.2.1
  have m1 := hM.2 1 (by decide)
  refine e_c0_passDay (e_c9_addPieces ⟨vp_in_nI (n := 1) (by decide) (by decide), vp_in_nI (n := 1) (by decide) (by decide), fun u hu => ?_⟩)
  have e1 : (1 : Int32).toNatClampNeg = 1 := rfl
  rw [e1, W.2.2.1 1 (by decide) (by decide), c6, nI_add, min_nI (c := (999 : Int32)) (b := 999) rfl (by omega) (by decide)] at hu
  have r : ∀ a j, rI u a j = if a = t + 1 ∧ j = 1 then nI (if w 1 + bk < 999 then w 1 + bk else 999) else rI s a j := fun a j => by rw [hu, rI_wI]
  have hr : Fr (Xd t) s u := by rw [hu]; exact fr_wI fr_rf (xd_s (xs_t (by omega)))
  refine w_day_16 ht C ppl 0 (day0 bk w κ) u (Nat.zero_add _) hr ?_ ?_ (day0_M hM) (Nat.two_pow_pos 6) (by rw [day0_0]; exact h0) (fun s' g1 g2 g3 => h s' g1 ?_ g3)
  · obtain ⟨W0, W1, W2, W3, W4⟩ := W
    show StW u t (uN w 1 _)
    refine ⟨?_, ?_, fun n h1 h2 => ?_, fun q hq => ?_, fun q hq => ?_⟩
    · rw [r, if_neg (by omega), W0]; unfold uN; rw [if_neg (by omega)]
    · rw [r, if_neg (by omega)]; exact W1
    · rw [r]
      unfold uN
      by_cases z : n = 1
      · rw [if_pos ⟨rfl, z⟩, if_pos z]
      · rw [if_neg (fun y => z y.2), if_neg z]; exact W2 n h1 h2
    · rw [r, if_neg (by omega), W3 q hq]; unfold uN; rw [if_neg (by omega)]
    · rw [r, if_neg (by omega), W4 q hq]; unfold uN; rw [if_neg (by omega)]
  · show KpC u t κ
    obtain ⟨K1, K2, f, K3, K4, K5⟩ := K
    exact ⟨by rw [r, if_neg (by omega)]; exact K1, K2, f, K3, by rw [r, if_neg (by omega)]; exact K4, fun k hk j hj => by rw [r, if_neg (by omega)]; exact K5 k hk j hj⟩
  · unfold dayF
    rw [dayL_0]
    exact g2
