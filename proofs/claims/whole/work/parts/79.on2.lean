theorem StW_d {s t : sT} {w : Nat → Nat} {v : Nat} (W : StW s 38 w) (e : t = wI s 38 0 (nI v)) : StW t 38 (uN w 0 v) := by
  obtain ⟨a, b, c, d, f⟩ := W
  refine ⟨?_, ?_, fun k q r => ?_, fun p hp => ?_, fun p hp => ?_⟩
  · rw [e, rI_wI, if_pos ⟨rfl, rfl⟩, uN_eq]
  · rw [e, rI_wI, if_neg (by omega)]; exact b
  · rw [e, rI_wI, if_neg (by omega), uN_ne (by omega)]; exact c k q r
  · rw [e, rI_wI, if_neg (by omega), uN_ne (by omega)]; exact d p hp
  · rw [e, rI_wI, if_neg (by omega), uN_ne (by omega)]; exact f p hp
theorem StW_40 {s t : sT} {w : Nat → Nat} {n v : Nat} (W : StW s 38 w) (e : t = wI s 40 n (nI v)) : StW t 38 (uN w (25 + 2 * n) v) := by
  obtain ⟨a, b, c, d, f⟩ := W
  refine ⟨?_, ?_, fun k q r => ?_, fun p hp => ?_, fun p hp => ?_⟩
  · rw [e, rI_wI, if_neg (by omega), uN_ne (by omega)]; exact a
  · rw [e, rI_wI, if_neg (by omega)]; exact b
  · rw [e, rI_wI, if_neg (by omega), uN_ne (by omega)]; exact c k q r
  · rw [e, rI_wI]
    by_cases z : p = n
    · rw [if_pos ⟨rfl, z⟩, z, uN_eq]
    · rw [if_neg (fun y => z y.2), uN_ne (by omega)]; exact d p hp
  · rw [e, rI_wI, if_neg (by omega), uN_ne (by omega)]; exact f p hp
theorem StW_41 {s t : sT} {w : Nat → Nat} {n v : Nat} (W : StW s 38 w) (e : t = wI s 41 n (nI v)) : StW t 38 (uN w (26 + 2 * n) v) := by
  obtain ⟨a, b, c, d, f⟩ := W
  refine ⟨?_, ?_, fun k q r => ?_, fun p hp => ?_, fun p hp => ?_⟩
  · rw [e, rI_wI, if_neg (by omega), uN_ne (by omega)]; exact a
  · rw [e, rI_wI, if_neg (by omega)]; exact b
  · rw [e, rI_wI, if_neg (by omega), uN_ne (by omega)]; exact c k q r
  · rw [e, rI_wI, if_neg (by omega), uN_ne (by omega)]; exact d p hp
  · rw [e, rI_wI]
    by_cases z : p = n
    · rw [if_pos ⟨rfl, z⟩, z, uN_eq]
    · rw [if_neg (fun y => z y.2), uN_ne (by omega)]; exact f p hp
def imA (f w : Nat → Nat) (i : Nat) : Nat → Nat := fun j => if j < i then T2 f (2 * j) else w j
def imB (f w : Nat → Nat) (fin p : Nat) : Nat → Nat := fun j => if 25 ≤ j ∧ j < 25 + 2 * p then (if j % 2 = 1 then f (2 + 2 * fin + 3 * ((j - 25) / 2)) else T2 f (2 + 2 * fin + 3 * ((j - 25) / 2) + 1)) else imA f w (fin + 1) j
theorem imA_1 {f w : Nat → Nat} : uN w 0 (T2 f 0) = imA f w 1 := by
  funext j
  unfold uN imA
  by_cases z : j = 0
  · subst z; rfl
  · rw [if_neg z, if_neg (by omega)]
theorem imA_s {f w : Nat → Nat} {i : Nat} : uN (imA f w i) i (T2 f (2 * i)) = imA f w (i + 1) := by
  funext j
  unfold uN imA
  by_cases z : j = i
  · subst z; rw [if_pos rfl, if_pos (by omega)]
  · rw [if_neg z]
    by_cases y : j < i
    · rw [if_pos y, if_pos (by omega)]
    · rw [if_neg y, if_neg (by omega)]
theorem imB_0 {f w : Nat → Nat} {fin : Nat} : imA f w (fin + 1) = imB f w fin 0 := by
  funext j
  unfold imB
  rw [if_neg (by omega)]
theorem imB_s {f w : Nat → Nat} {fin p : Nat} : uN (uN (imB f w fin p) (25 + 2 * p) (f (2 + 2 * fin + 3 * p))) (26 + 2 * p) (T2 f (2 + 2 * fin + 3 * p + 1)) = imB f w fin (p + 1) := by
  funext j
  unfold uN imB
  by_cases z : j = 26 + 2 * p
  · subst z
    rw [if_pos rfl, if_pos (by omega), if_neg (by omega), show (26 + 2 * p - 25) / 2 = p by omega]
  · rw [if_neg z]
    by_cases y : j = 25 + 2 * p
    · subst y
      rw [if_pos rfl, if_pos (by omega), if_pos (by omega), show (25 + 2 * p - 25) / 2 = p by omega]
    · rw [if_neg y]
      by_cases x : 25 ≤ j ∧ j < 25 + 2 * p
      · rw [if_pos x, if_pos (show 25 ≤ j ∧ j < 25 + 2 * (p + 1) by omega)]
      · rw [if_neg x, if_neg (show ¬ (25 ≤ j ∧ j < 25 + 2 * (p + 1)) by omega)]
theorem imB_V {f w : Nat → Nat} {n fin ppl : Nat} (h24 : fin ≤ 24) (hV : wV fin ppl w) (P : onP f n fin ppl) : wV fin ppl (imB f w fin ppl) := by
  obtain ⟨-, -, p0, p1⟩ := P
  rw [Bool.and_eq_true] at p1
  have s1 := im1_sp fin 1 p1.1
  have s2 := im2_sp ppl 0 p1.2
  obtain ⟨v1, v2, v3⟩ := hV
  refine ⟨fun j => ?_, fun j a b => ?_, fun q a b => ⟨?_, ?_⟩⟩
  · unfold imB imA
    split
    · rename_i y
      have := s2 ((j - 25) / 2) (Nat.zero_le _) (by omega)
      split
      · omega
      · exact this.2
    · split
      · rcases Nat.eq_zero_or_pos j with z | z
        · subst z; exact p0
        · exact s1 j z (by omega)
      · exact v1 j
  · unfold imB imA
    rw [if_neg (by omega), if_neg (by omega)]
    exact v2 j a b
  · unfold imB imA
    rw [if_neg (by omega), if_neg (by omega)]
    exact (v3 q a b).1
  · unfold imB imA
    rw [if_neg (by omega), if_neg (by omega)]
    exact (v3 q a b).2
theorem w_rd40 {f w : Nat → Nat} {fin ppl : Nat} {Q : sT → Prop} {s : sT} (h24 : fin ≤ 24) (h6 : ppl ≤ 6) (hF : rI s 21 0 = nI fin) (hP : rI s 21 2 = nI ppl) (h2 : rI s 2 1 = nI (3 + 2 * fin + 3 * ppl)) (h3 : tpC s 3 f) (h : ∀ s', Fr (Xs 38) s s' → StW s' 38 (imB f w fin ppl) → KpC s' 38 (0, fun _ _ => 0) → Q s') : ∀ m p s1, p + m = ppl → Fr (Xs 38) s s1 → StW s1 38 (imB f w fin p) → c9_read_40 (nI p) Q s1
  | 0, p, s1, e, F, W => by
    have e : p = ppl := e
    subst e
    refine e_c9_read_40 (br_f (by rw [F.1 _ _ rfl, hP]; exact nI_nlt (Nat.le_refl _) (by omega)) (e_c9_forgetKept (fun u1 g1 u2 g2 => h u2 ?_ ?_ ?_)))
    · rw [g2, g1]; exact fr_wI (fr_wI F rfl) rfl
    · obtain ⟨a, b, c, d, f⟩ := W
      refine ⟨?_, ?_, fun k q r => ?_, fun p hp => ?_, fun p hp => ?_⟩
      · rw [g2, g1, rI_wI, if_neg (by omega), rI_wI, if_neg (by omega)]; exact a
      · rw [g2, g1, rI_wI, if_neg (by omega), rI_wI, if_neg (by omega)]; exact b
      · rw [g2, g1, rI_wI, if_neg (by omega), rI_wI, if_neg (by omega)]; exact c k q r
      · rw [g2, g1, rI_wI, if_neg (by omega), rI_wI, if_neg (by omega)]; exact d p hp
      · rw [g2, g1, rI_wI, if_neg (by omega), rI_wI, if_neg (by omega)]; exact f p hp
    · refine ⟨by rw [g2, rI_wI, if_pos ⟨rfl, rfl⟩]; rfl, by decide, 0, by decide, by rw [g2, rI_wI, if_neg (by omega), g1, rI_wI, if_pos ⟨rfl, rfl⟩]; rfl, fun k hk => absurd hk (Nat.not_lt_zero k)⟩
  | m + 1, p, s1, e, F, W => by
    have T1 : tpC s1 3 f := fun k hk => ⟨(h3 k hk).1, by rw [F.1 3 k rfl]; exact (h3 k hk).2⟩
    refine e_c9_read_40 (br_t (by rw [F.1 _ _ rfl, hP]; exact nI_lt (by omega) (by omega)) (fun x hx => ?_))
    rw [F.1 21 0 rfl, hF, ix_] at hx
    rw [hx]
    refine ⟨vp_in_nI (by omega) (by decide), vp_in_nI (by omega) (by decide), fun u2 g2 => ?_⟩
    rw [nI_clamp (by omega), nI_clamp (by omega), (T1 _ (by omega)).2] at g2
    have F2 : Fr (Xs 38) s u2 := by rw [g2]; exact fr_wI F rfl
    have T2' : tpC u2 3 f := fun k hk => ⟨(h3 k hk).1, by rw [F2.1 3 k rfl]; exact (h3 k hk).2⟩
    have W2 := StW_40 W g2
    rw [nI_1]
    refine twoC (n := 3 + 2 * fin + 3 * ppl) (by omega) (by rw [F2.1 _ _ rfl]; exact h2) T2' (by omega) ⟨vp_in_nI (by omega) (by decide), fun u5 g5 => ?_⟩
    rw [nI_clamp (by omega)] at g5
    have W5 := StW_41 W2 g5
    rw [imB_s] at W5
    rw [nI_1]
    exact w_rd40 h24 h6 hF hP h2 h3 h m (p + 1) u5 (by omega) (by rw [g5]; exact fr_wI F2 rfl) W5
theorem w_rd11 {f w : Nat → Nat} {fin ppl : Nat} {Q : sT → Prop} {s : sT} (h24 : fin ≤ 24) (h6 : ppl ≤ 6) (hF : rI s 21 0 = nI fin) (h2 : rI s 2 1 = nI (3 + 2 * fin + 3 * ppl)) (h3 : tpC s 3 f) (h : ∀ s', Fr (Xs 38) s s' → StW s' 38 (imA f w (fin + 1)) → c9_read_40 0 Q s') : ∀ m i s1, i + m = fin + 1 → 1 ≤ i → Fr (Xs 38) s s1 → StW s1 38 (imA f w i) → c9_read_11 (nI i) Q s1
  | 0, i, s1, e, h1, F, W => by
    have e : i = fin + 1 := e
    subst e
    exact e_c9_read_11 (br_t (by rw [F.1 _ _ rfl, hF]; exact nI_lt (by omega) (by omega)) (h s1 F W))
  | m + 1, i, s1, e, h1, F, W => by
    have T1 : tpC s1 3 f := fun k hk => ⟨(h3 k hk).1, by rw [F.1 3 k rfl]; exact (h3 k hk).2⟩
    refine e_c9_read_11 (br_f (by rw [F.1 _ _ rfl, hF]; exact nI_nlt (by omega) (by omega)) ?_)
    rw [show (2 : Int32) = nI 2 from rfl, pk_mul]
    refine twoC (n := 3 + 2 * fin + 3 * ppl) (by omega) (by rw [F.1 _ _ rfl]; exact h2) T1 (by omega) ⟨vp_in_nI (by omega) (by decide), fun u5 g5 => ?_⟩
    rw [nI_clamp (by omega)] at g5
    have W5 := StW_1 W h1 (by omega) g5
    rw [imA_s] at W5
    rw [nI_1]
    exact w_rd11 h24 h6 hF h2 h3 h m (i + 1) u5 (by omega) (by omega) (by rw [g5]; exact fr_wI F rfl) W5
theorem w_on75 {f w : Nat → Nat} {fin ppl : Nat} {Q : Int32 → sT → Prop} {s : sT} (h24 : fin ≤ 24) (h6 : ppl ≤ 6) (hP : rI s 193 7 = nI ppl) (h3 : tpC s 163 f) (h : ∀ s', Fr X200 s s' → NwW s' (imB f w fin ppl) → ∀ u7, u7 = wI s' 200 37 0 → ∀ u8, u8 = wI u7 162 73 0 → Q 1 u8) : ∀ m p s1, p + m = ppl → Fr X200 s s1 → NwW s1 (imB f w fin p) → c12_on_75 (nI (2 + 2 * fin)) (nI p) Q s1
  | 0, p, s1, e, F, W => by
    have e : p = ppl := e
    subst e
    exact e_c12_on_75 (e_c12_personMany (br_f (by rw [F.1 _ _ rfl, hP]; exact nI_nlt (Nat.le_refl _) (by omega)) (h s1 F W)))
  | m + 1, p, s1, e, F, W => by
    refine e_c12_on_75 (e_c12_personMany (br_t (by rw [F.1 _ _ rfl, hP]; exact nI_lt (by omega) (by omega)) ?_))
    rw [show (25 : Int32) + (2 : Int32) * nI p = nI (25 + 2 * p) from vHun, show (26 : Int32) + (2 : Int32) * nI p = nI (26 + 2 * p) from vTim, show (3 : Int32) = nI 3 from rfl, pk_mul, nI_add, nI_1]
    refine ⟨vp_in_nI (by omega) (by decide), vp_in_nI (by omega) (by decide), fun u2 g2 => ?_⟩
    rw [nI_clamp (by omega), nI_clamp (by omega), F.1 163 _ rfl, (h3 _ (by omega)).2] at g2
    have F2 : Fr X200 s u2 := by
      rw [g2]
      refine fr_wI F ?_
      unfold X200
      rw [Bool.and_eq_true, Nat.ble_eq]
      exact ⟨rfl, by omega⟩
    have T2' : tpC u2 163 f := fun k hk => ⟨(h3 k hk).1, by rw [F2.1 163 k rfl]; exact (h3 k hk).2⟩
    have W2 := NwW_1 W g2
    refine twoR T2' (by omega) ⟨vp_in_nI (by omega) (by decide), fun u5 g5 => ?_⟩
    rw [nI_clamp (by omega)] at g5
    have W5 := NwW_1 W2 g5
    rw [imB_s] at W5
    rw [nI_1]
    refine w_on75 h24 h6 hP h3 h m (p + 1) u5 (by omega) ?_ W5
    rw [g5]
    refine fr_wI F2 ?_
    unfold X200
    rw [Bool.and_eq_true, Nat.ble_eq]
    exact ⟨rfl, by omega⟩
theorem w_on37 {f w : Nat → Nat} {fin : Nat} {Q : Int32 → sT → Prop} {s : sT} (h24 : fin ≤ 24) (hF : rI s 193 5 = nI fin) (h3 : tpC s 163 f) (h : ∀ s', Fr X200 s s' → NwW s' (imA f w (fin + 1)) → c12_on_75 (nI (2 + 2 * fin)) 0 Q s') : ∀ m i s1, i + m = fin + 1 → Fr X200 s s1 → NwW s1 (imA f w i) → c12_on_37 (nI i) Q s1
  | 0, i, s1, e, F, W => by
    have e : i = fin + 1 := e
    subst e
    refine e_c12_on_37 (e_c12_finest (br_t (by rw [F.1 _ _ rfl, hF]; exact nI_lt (by omega) (by omega)) (e_c12_finest (fun x hx => ?_))))
    rw [F.1 193 5 rfl, hF, show (2 : Int32) = nI 2 from rfl, pk_mul, nI_add] at hx
    rw [hx]
    exact h s1 F W
  | m + 1, i, s1, e, F, W => by
    have T1 : tpC s1 163 f := fun k hk => ⟨(h3 k hk).1, by rw [F.1 163 k rfl]; exact (h3 k hk).2⟩
    refine e_c12_on_37 (e_c12_finest (br_f (by rw [F.1 _ _ rfl, hF]; exact nI_nlt (by omega) (by omega)) ?_))
    rw [show (2 : Int32) = nI 2 from rfl, pk_mul]
    refine twoR T1 (by omega) ⟨vp_in_nI (by omega) (by decide), fun u5 g5 => ?_⟩
    rw [nI_clamp (by omega)] at g5
    have W5 := NwW_1 W g5
    rw [imA_s] at W5
    rw [nI_1]
    refine w_on37 h24 hF h3 h m (i + 1) u5 (by omega) ?_ W5
    rw [g5]
    refine fr_wI F ?_
    unfold X200
    rw [Bool.and_eq_true, Nat.ble_eq]
    exact ⟨rfl, by omega⟩
/-- what taking in an image writes -/
def XO (a j : Nat) : Bool := (Nat.ble 38 a && Nat.ble a 43) || ((Nat.beq a 2 && Nat.beq j 1) || ((Nat.beq a 162 && (Nat.beq j 1 || Nat.beq j 73)) || Nat.beq a 200))
theorem off_XO {f : Nat → Nat → Bool} (h : ∀ a j, f a j = true → ¬ ((38 ≤ a ∧ a ≤ 43) ∨ (a = 2 ∧ j = 1) ∨ (a = 162 ∧ (j = 1 ∨ j = 73)) ∨ a = 200)) : off f XO := fun a j q => by
  have z := h a j q
  unfold XO
  rw [Bool.eq_false_iff]
  intro x
  simp only [Bool.or_eq_true, Bool.and_eq_true, Nat.beq_eq, Nat.ble_eq] at x
  omega
theorem IA_O {s t : sT} {fin most ppl bk mi : Nat} {L : Nat → List Nat} {lc cc : List Nat} {w w' : Nat → Nat} {κ κ' : kT} (I : IA s fin most ppl bk mi L lc cc w κ) (h : Fr XO s t) (hT : IT t) (hN : IN t fin ppl w' κ') (hH : IH t fin ppl) : Inv t := by
  obtain ⟨⟨c1, c2, c3, c4, c5, c6⟩, i1, i2, i3, i4, i5⟩ := I
  refine ⟨fin, most, ppl, bk, mi, L, lc, cc, w', κ', ⟨IC_fr h (off_XO fun a j q => ?_) c1, hT, IR_fr h (off_XO fun a j q => ?_) c3, IF_fr h (off_XO fun a j q => ?_) c4, IP_fr h (off_XO fun a j q => ?_) c5, IS_fr h (off_XO fun a j q => ?_) c6⟩, IO_fr h (off_XO fun a j q => ?_) i1, hN, hH, IX_fr h (off_XO fun a j q => ?_) i4, IK_fr h (off_XO fun a j q => ?_) i5⟩
  · unfold fIC at q
    simp only [Bool.or_eq_true, Bool.and_eq_true, Nat.beq_eq, Nat.ble_eq] at q
    omega
  · unfold fIR at q
    simp only [Bool.or_eq_true, Bool.and_eq_true, Nat.beq_eq, Nat.ble_eq] at q
    omega
  · unfold fIF at q
    simp only [Bool.or_eq_true, Bool.and_eq_true, Nat.beq_eq, Nat.ble_eq] at q
    omega
  · unfold fIP at q
    simp only [Bool.or_eq_true, Bool.and_eq_true, Nat.beq_eq, Nat.ble_eq] at q
    omega
  · unfold fIS at q
    simp only [Bool.or_eq_true, Bool.and_eq_true, Nat.beq_eq, Nat.ble_eq] at q
    omega
  · unfold fIO at q
    simp only [Bool.or_eq_true, Bool.and_eq_true, Nat.beq_eq, Nat.ble_eq, Bool.not_eq_true', ← Bool.not_eq_true] at q
    omega
  · unfold fIX at q
    simp only [Bool.or_eq_true, Bool.and_eq_true, Nat.beq_eq, Nat.ble_eq] at q
    omega
  · unfold fIK at q
    simp only [Bool.or_eq_true, Bool.and_eq_true, Nat.beq_eq, Nat.ble_eq] at q
    omega
theorem op_on {s : sT} (I : Inv s) : two Inv c11_on c12_on s := by
  obtain ⟨fin, most, ppl, bk, mi, L, lc, cc, w, κ, I⟩ := I
  obtain ⟨⟨-, ⟨n, hn, tC, tR, tb⟩, cR, -⟩, io, ⟨n1, n2, n3, n4, n5, n6, n7⟩, ih, ix, -⟩ := id I
  obtain ⟨-, -, -, -, -, -, -, OC, OR, -⟩ := id io
  have h24 := OC.1
  have o2 := OC.2.1
  obtain ⟨f, hf⟩ : ∃ f : Nat → Nat, ∀ k, k < 1600 → f k < 256 ∧ rI s 3 k = nI (f k) ∧ rI s 163 k = nI (f k) :=
    ⟨fun k => if h : k < 1600 then (tb k h).choose else 0, fun k hk => by
      have := (tb k hk).choose_spec
      dsimp only
      rw [dif_pos hk]
      exact this⟩
  have t3 : tpC s 3 f := fun k hk => ⟨(hf k hk).1, (hf k hk).2.1⟩
  have bad : (∀ s1, rI s1 162 1 = nI n → Fr XE s s1 → ∀ Q : Int32 → sT → Prop, Q 0 (wI s1 162 1 0) → c12_isImage (nI n) Q (wI s1 162 1 0)) → c11_on_35 (fun r1 s1 => c12_on (fun r2 s2 => r1 = r2 ∧ Inv s2) s1) s := fun hs => by
    refine e_c11_on_35 (br_t rfl (refC (k := 5) (by decide) (fun u hu => ⟨nil01, e_c12_on (fun x hx u2 h2 => ?_)⟩)))
    have e1 : rI u 162 1 = nI n := by rw [hu, rI_wI, if_neg (by omega), rI_wI, if_neg (by omega)]; exact tR
    rw [hx, e1, h2]
    refine hs u e1 (by rw [hu]; exact fr_wI (fr_wI fr_rf rfl) rfl) _ (no0 (refB (k := 5) (by decide) ⟨nil01, rfl, ?_⟩))
    rw [hu]
    refine IA_E I (fr_wI (fr_wI (fr_wI (fr_wI fr_rf rfl) rfl) rfl) rfl) ⟨0, by omega, ?_, ?_, fun k hk => ⟨f k, (hf k hk).1, ?_, ?_⟩⟩ (fun k hk => ?_) (IX_fr (X := fun a j => Nat.beq a 1 || ((Nat.beq a 2 && Nat.beq j 1) || ((Nat.beq a 162 && Nat.beq j 1) || Nat.beq a 164))) (fr_wI (fr_wI (fr_wI (fr_wI fr_rf rfl) rfl) rfl) rfl) (fun a j q => ?_) ix)
    · simp [rI_wI]; rfl
    · simp [rI_wI]; rfl
    · simp [rI_wI]; exact (hf k hk).2.1
    · simp [rI_wI]; exact (hf k hk).2.2
    · have := cR k hk
      simp only [rI_wI]
      by_cases z : k = 5
      · subst z; simp [this]
      · simp [z, this]
    · unfold fIX at q
      rw [Bool.eq_false_iff]
      intro z
      simp only [Bool.or_eq_true, Bool.and_eq_true, Nat.beq_eq] at q z
      omega
  by_cases h0 : fin = 0
  · have e49 := (IO_not io h0).2.2
    subst h0
    refine e_c11_on (offC_f OC.2.2.2.1 (no0 (bad (fun s1 e1 F Q hq => ?_))))
    exact e_c12_isImage (e_c12_finest (fun x hx => br_t (by rw [rI_wI, if_neg (by omega), F.1 _ _ rfl]; exact e49) hq))
  · have ht := (IO_told io (by omega)).2.1
    have RI : ∀ s1 (Q : Int32 → sT → Prop), Fr XE s s1 → (onP f n fin ppl → Q 1 (wI s1 162 1 0)) → (¬ onP f n fin ppl → Q 0 (wI s1 162 1 0)) → c12_isImage (nI n) Q (wI s1 162 1 0) := fun s1 Q F a b =>
      w_imR h24 o2 hn (by rw [rI_wI, if_neg (by omega), F.1 _ _ rfl]; exact OR.2.2.2.1) (by rw [rI_wI, if_neg (by omega), F.1 _ _ rfl]; exact OR.2.2.2.2.1) (by rw [rI_wI, if_neg (by omega), F.1 _ _ rfl]; exact ht) (fun k hk => ⟨(hf k hk).1, by rw [rI_wI, if_neg (by omega), F.1 _ _ rfl]; exact (hf k hk).2.2⟩) a b
    refine e_c11_on (offC_t OC.2.2.2.1 h24 (by omega) (yes1 ?_))
    rw [OC.2.2.2.1, OC.2.2.2.2.1]
    refine w_imC h24 o2 hn tC t3 (fun P => yes1 (br_f (by decide) ?_)) (fun P => no0 (bad (fun s1 e1 F Q hq => RI s1 Q F (fun z => absurd z P) (fun _ => hq))))
    have hP := P
    obtain ⟨rfl, -⟩ := hP
    have hV := imB_V h24 n3 P
    refine e_c9_read (twoC (k := 0) hn tC t3 (by omega) (fun u hu => ?_))
    have Wd := StW_d n1 hu
    rw [imA_1] at Wd
    refine w_rd11 h24 o2 OC.2.2.2.1 tC t3 (fun s1 F1 W1 => ?_) fin 1 u (by omega) (by decide) (by rw [hu]; exact fr_wI fr_rf rfl) Wd
    rw [imB_0] at W1
    refine w_rd40 h24 o2 OC.2.2.2.1 OC.2.2.2.2.1 tC t3 (fun s2 F2 W2 K2 => ?_) ppl 0 s1 (Nat.zero_add _) F1 W1
    refine e_c3_forget (fun u3 g3 u4 g4 u5 g5 => ⟨one01, ?_⟩)
    have FC : Fr XO s u5 := by
      rw [g5, g4, g3]
      refine fr_wI (fr_wI (fr_wI (fr_mo F2 (fun a j q => ?_)) rfl) rfl) rfl
      unfold Xs at q
      unfold XO
      simp only [Bool.or_eq_true, Bool.and_eq_true, Nat.beq_eq, Nat.ble_eq] at q ⊢
      omega
    have r5 : ∀ a j, ¬ (38 ≤ a ∧ a ≤ 43) → a ≠ 2 → rI u5 a j = rI s a j := fun a j p q => by
      rw [g5, rI_wI, if_neg (by omega), g4, rI_wI, if_neg (by omega), g3, rI_wI, if_neg (by omega), F2.1 _ _ (xs_f (by omega))]
    have t163 : tpC (wI u5 162 1 0) 163 f := fun k hk => ⟨(hf k hk).1, by rw [rI_wI, if_neg (by omega), r5 _ _ (by omega) (by omega)]; exact (hf k hk).2.2⟩
    refine e_c12_on (fun x hx u6 g6 => ?_)
    rw [r5 _ _ (by omega) (by omega), tR] at hx
    rw [hx, g6]
    refine w_imR h24 o2 hn (by rw [rI_wI, if_neg (by omega), r5 _ _ (by omega) (by omega)]; exact OR.2.2.2.1) (by rw [rI_wI, if_neg (by omega), r5 _ _ (by omega) (by omega)]; exact OR.2.2.2.2.1) (by rw [rI_wI, if_neg (by omega), r5 _ _ (by omega) (by omega)]; exact ht) t163 (fun _ => yes1 ?_) (fun z => absurd P z)
    refine twoR (k := 0) t163 (by omega) (fun u7 g7 => ?_)
    have N6 : NwW (wI u5 162 1 0) w := fun k hk => by rw [rI_wI, if_neg (by omega), r5 _ _ (by omega) (by omega)]; exact n2 k hk
    have N7 := NwW_1 N6 g7
    rw [imA_1] at N7
    have F7 : Fr X200 (wI u5 162 1 0) u7 := by rw [g7]; exact fr_wI fr_rf rfl
    refine w_on37 h24 (by rw [rI_wI, if_neg (by omega), r5 _ _ (by omega) (by omega)]; exact OR.2.2.2.1) t163 (fun s8 F8 N8 => ?_) fin 1 u7 (by omega) F7 N7
    rw [imB_0] at N8
    refine w_on75 h24 o2 (by rw [rI_wI, if_neg (by omega), r5 _ _ (by omega) (by omega)]; exact OR.2.2.2.2.1) t163 (fun s9 F9 N9 v1 k1 v2 k2 => ⟨rfl, ?_⟩) ppl 0 s8 (Nat.zero_add _) F8 N8
    have F : Fr XO s v2 := by
      rw [k2, k1]
      refine fr_wI (fr_wI (fr_tr (fr_wI FC rfl) (fr_mo F9 (fun a j q => ?_))) rfl) rfl
      unfold X200 at q
      unfold XO
      simp only [Bool.or_eq_true, Bool.and_eq_true, Nat.beq_eq, Nat.ble_eq] at q ⊢
      omega
    have rv : ∀ a j, a ≠ 200 → ¬ (a = 162 ∧ (j = 1 ∨ j = 73)) → rI v2 a j = rI u5 a j := fun a j p q => by
      rw [k2, rI_wI, if_neg (by omega), k1, rI_wI, if_neg (by omega), F9.1 _ _ (x200_f (by omega)), rI_wI, if_neg (by omega)]
    have r2 : ∀ a j, 38 ≤ a → a ≤ 42 → rI v2 a j = rI s2 a j := fun a j p q => by
      rw [rv _ _ (by omega) (by omega), g5, rI_wI, if_neg (by omega), g4, rI_wI, if_neg (by omega), g3, rI_wI, if_neg (by omega)]
    refine IA_O (w' := imB f w fin ppl) (κ' := (0, fun _ _ => 0)) I F ⟨0, by omega, ?_, ?_, fun k hk => ⟨f k, (hf k hk).1, ?_, ?_⟩⟩ ⟨?_, fun k hk => ?_, hV, ?_, ⟨?_, by decide, fun k hk => absurd hk (Nat.not_lt_zero k)⟩, ?_, ?_⟩ ?_
    · rw [rv _ _ (by omega) (by omega), g5, rI_wI, if_pos ⟨rfl, rfl⟩]; rfl
    · rw [k2, rI_wI, if_neg (by omega), k1, rI_wI, if_neg (by omega), F9.1 _ _ (x200_f (by omega)), rI_wI, if_pos ⟨rfl, rfl⟩]; rfl
    · rw [F.1 _ _ rfl]; exact (hf k hk).2.1
    · rw [F.1 _ _ rfl]; exact (hf k hk).2.2
    · obtain ⟨a, b, c, d, e⟩ := W2
      exact ⟨by rw [r2 _ _ (by omega) (by omega)]; exact a, by rw [r2 _ _ (by omega) (by omega)]; exact b, fun k q r => by rw [r2 _ _ (by omega) (by omega)]; exact c k q r, fun p hp => by rw [r2 _ _ (by omega) (by omega)]; exact d p hp, fun p hp => by rw [r2 _ _ (by omega) (by omega)]; exact e p hp⟩
    · rw [k2, rI_wI, if_neg (by omega), k1, rI_wI, if_neg (by omega)]; exact N9 k hk
    · obtain ⟨a, b, g, c, d, e⟩ := K2
      exact ⟨by rw [r2 _ _ (by omega) (by omega)]; exact a, b, g, c, by rw [r2 _ _ (by omega) (by omega)]; exact d, fun k hk => absurd hk (Nat.not_lt_zero k)⟩
    · rw [k2, rI_wI, if_neg (by omega), k1, rI_wI, if_pos ⟨rfl, rfl⟩]; rfl
    · rw [F.1 _ _ rfl]; exact n6
    · exact k148_fr F (fun a j q => by rcases q with rfl | rfl <;> rfl) n7
    · obtain ⟨c, hf', nw, -, b2, b3, -, -, -, b7, -⟩ := ih
      refine ⟨0, 0, nw, by decide, by decide, b3, ?_, ?_, ?_, ?_, fun k hk => absurd hk (Nat.not_lt_zero k)⟩
      · rw [rv _ _ (by omega) (by omega), g5, rI_wI, if_neg (by omega), g4, rI_wI, if_neg (by omega), g3, rI_wI, if_pos ⟨rfl, rfl⟩]; rfl
      · rw [rv _ _ (by omega) (by omega), g5, rI_wI, if_neg (by omega), g4, rI_wI, if_pos ⟨rfl, rfl⟩]; rfl
      · rw [k2, rI_wI, if_pos ⟨rfl, rfl⟩]; rfl
      · rw [F.1 _ _ rfl]; exact b7
