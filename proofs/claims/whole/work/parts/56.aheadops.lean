def IA (s : sT) (fin most ppl bk mi : Nat) (L : Nat → List Nat) (lc cc : List Nat) (w : Nat → Nat) (κ : kT) : Prop := (IC s ∧ IT s ∧ IR s ∧ IF s ∧ IP s ∧ IS s) ∧ IO s fin most ppl bk mi L lc cc ∧ IN s fin ppl w κ ∧ IH s fin ppl ∧ IX s ppl ∧ IK s fin most
theorem IA_Inv {s : sT} {fin most ppl bk mi : Nat} {L : Nat → List Nat} {lc cc : List Nat} {w : Nat → Nat} {κ : kT} (h : IA s fin most ppl bk mi L lc cc w κ) : Inv s := ⟨fin, most, ppl, bk, mi, L, lc, cc, w, κ, h⟩
/-- what may be written where a call only looks -/
def Xz (a j : Nat) : Bool := Nat.beq a 28 || (Nat.beq a 31 || ((Nat.beq a 35 && (Nat.beq j 4 || Nat.beq j 5)) || (Nat.beq a 146 || ((Nat.beq a 147 && Nat.ble 9 j) || ((Nat.ble 148 a && Nat.ble a 154) || ((Nat.ble 156 a && Nat.ble a 160) || (Nat.beq a 200 || ((Nat.ble 201 a && Nat.ble a 203) || ((Nat.ble 207 a && Nat.ble a 209) || (Nat.beq a 211 || ((Nat.ble 237 a && Nat.ble a 239) || (Nat.beq a 162 && (Nat.beq j 50 || (Nat.beq j 53 || ((Nat.ble 59 j && Nat.ble j 64) || (Nat.beq j 68 || Nat.ble 112 j || (Nat.ble 100 j && Nat.ble j 110)))))))))))))))))
theorem xz_d {a j : Nat} (h : Xd 148 a j = true) : Xz a j = true := by
  unfold Xd Xs Xc at h
  unfold Xz
  simp only [Bool.or_eq_true, Bool.and_eq_true, Nat.beq_eq, Nat.ble_eq, beq_iff_eq] at *
  omega
theorem xz_q {a j : Nat} (h : Xq a j = true) : Xz a j = true := by
  unfold Xq at h
  unfold Xz
  simp only [Bool.or_eq_true, Bool.and_eq_true, Nat.beq_eq, Nat.ble_eq] at *
  omega
theorem xz_r {a j : Nat} (h : Xr a j = true) : Xz a j = true := xz_q (xq_r h)
theorem xz_a {a j : Nat} (h : Xa a j = true) : Xz a j = true := by
  unfold Xa at h
  unfold Xz
  simp only [Bool.or_eq_true, Bool.and_eq_true, Nat.beq_eq, Nat.ble_eq] at *
  omega
theorem xz_n {a j : Nat} (h : (Xn a j || (Nat.beq a 162 && Nat.beq j 64)) = true) : Xz a j = true := by
  unfold Xn at h
  unfold Xz
  simp only [Bool.or_eq_true, Bool.and_eq_true, Nat.beq_eq, Nat.ble_eq] at *
  omega
theorem oz_C : off fIC Xz := fun a j q => by
  rw [Bool.eq_false_iff]
  intro z
  unfold fIC at q
  unfold Xz at z
  simp only [Bool.or_eq_true, Bool.and_eq_true, Nat.beq_eq, Nat.ble_eq] at q z
  omega
theorem oz_T : off fIT Xz := fun a j q => by
  rw [Bool.eq_false_iff]
  intro z
  unfold fIT at q
  unfold Xz at z
  simp only [Bool.or_eq_true, Bool.and_eq_true, Nat.beq_eq, Nat.ble_eq] at q z
  omega
theorem oz_R : off fIR Xz := fun a j q => by
  rw [Bool.eq_false_iff]
  intro z
  unfold fIR at q
  unfold Xz at z
  simp only [Bool.or_eq_true, Bool.and_eq_true, Nat.beq_eq, Nat.ble_eq] at q z
  omega
theorem oz_F : off fIF Xz := fun a j q => by
  rw [Bool.eq_false_iff]
  intro z
  unfold fIF at q
  unfold Xz at z
  simp only [Bool.or_eq_true, Bool.and_eq_true, Nat.beq_eq, Nat.ble_eq] at q z
  omega
theorem oz_P : off fIP Xz := fun a j q => by
  rw [Bool.eq_false_iff]
  intro z
  unfold fIP at q
  unfold Xz at z
  simp only [Bool.or_eq_true, Bool.and_eq_true, Nat.beq_eq, Nat.ble_eq] at q z
  omega
theorem oz_S : off fIS Xz := fun a j q => by
  rw [Bool.eq_false_iff]
  intro z
  unfold fIS at q
  unfold Xz at z
  simp only [Bool.or_eq_true, Bool.and_eq_true, Nat.beq_eq, Nat.ble_eq] at q z
  omega
theorem oz_O : off fIO Xz := fun a j q => by
  rw [Bool.eq_false_iff]
  intro z
  unfold fIO at q
  unfold Xz at z
  simp only [Bool.or_eq_true, Bool.and_eq_true, Nat.beq_eq, Nat.ble_eq, Bool.not_eq_true', ← Bool.not_eq_true] at q z
  omega
theorem oz_H : off fIH Xz := fun a j q => by
  rw [Bool.eq_false_iff]
  intro z
  unfold fIH at q
  unfold Xz at z
  simp only [Bool.or_eq_true, Bool.and_eq_true, Nat.beq_eq, Nat.ble_eq] at q z
  omega
theorem oz_X : off fIX Xz := fun a j q => by
  rw [Bool.eq_false_iff]
  intro z
  unfold fIX at q
  unfold Xz at z
  simp only [Bool.or_eq_true, Bool.and_eq_true, Nat.beq_eq, Nat.ble_eq] at q z
  omega
theorem oz_K : off fIK Xz := fun a j q => by
  rw [Bool.eq_false_iff]
  intro z
  unfold fIK at q
  unfold Xz at z
  simp only [Bool.or_eq_true, Bool.and_eq_true, Nat.beq_eq, Nat.ble_eq] at q z
  omega
theorem xz_38 {a j : Nat} (h : 38 ≤ a ∧ a ≤ 42) : Xz a j = false := by
  rw [Bool.eq_false_iff]
  intro z
  unfold Xz at z
  simp only [Bool.or_eq_true, Bool.and_eq_true, Nat.beq_eq, Nat.ble_eq] at z
  omega
theorem KpR_of {s t : sT} {κ : kT} (h : ∀ j, 37 ≤ j → rI t 200 j = rI s 200 j) (K : KpR s κ) : KpR t κ :=
  ⟨by rw [h _ (by omega)]; exact K.1, K.2.1, fun k hk j hj => by rw [h _ (by omega)]; exact K.2.2 k hk j hj⟩
/-- a call that only looks leaves all as it was -/
theorem IA_z {s t : sT} {fin most ppl bk mi : Nat} {L : Nat → List Nat} {lc cc : List Nat} {w : Nat → Nat} {κ : kT} (I : IA s fin most ppl bk mi L lc cc w κ) (h : Fr Xz s t) (N : NwW t w) (h37 : ∀ j, 37 ≤ j → rI t 200 j = rI s 200 j) (h64 : rI t 162 64 = 0) (K : ∃ κ, KpC t 148 κ) : IA t fin most ppl bk mi L lc cc w κ := by
  obtain ⟨⟨c1, c2, c3, c4, c5, c6⟩, i1, ⟨n1, n2, n3, n4, n5, n6, n7⟩, i3, i4, i5⟩ := I
  exact ⟨⟨IC_fr h oz_C c1, IT_fr h oz_T c2, IR_fr h oz_R c3, IF_fr h oz_F c4, IP_fr h oz_P c5, IS_fr h oz_S c6⟩, IO_fr h oz_O i1, ⟨StW_fr h (fun a j p q => xz_38 (by omega)) n1, N, n3, KpC_fr h (fun a j q => xz_38 (by omega)) n4, KpR_of h37 n5, h64, K⟩, IH_fr h oz_H i3, IX_fr h oz_X i4, IK_fr h oz_K i5⟩
theorem ahR_t {n lo hi w0 : Nat} {Q : Int32 → sT → Prop} {s : sT} (ht : rI s 162 49 = 1) (hd : rI s 200 0 = nI w0) (h1 : lo ≤ n) (h2 : n ≤ hi) (h3 : hi ≤ 100) (h0 : w0 + n ≤ 999) (q : Q 1 s) : c12_isAhead (nI n) (nI lo) (nI hi) Q s := by
  refine e_c12_isAhead (br_f (by rw [ht]; decide) (isIn_t (by rw [wide, wide, wide, nI_toInt (by omega), nI_toInt (by omega), nI_toInt (by omega)]; omega) (yes1 (br_f ?_ q))))
  rw [hd, nI_add]
  exact nI_nlt (a := 999) (by omega) (by decide)
theorem ahR_f {v : Int32} {lo hi w0 : Nat} {Q : Int32 → sT → Prop} {s : sT} (hd : rI s 200 0 = nI w0) (hw : w0 ≤ 999) (hlo : lo ≤ 1) (h3 : hi ≤ 100) (ht : rI s 162 49 = 0 ∨ ¬ ∃ n, lo ≤ n ∧ n ≤ hi ∧ w0 + n ≤ 999 ∧ v = nI n) (q : Q 0 s) : c12_isAhead v (nI lo) (nI hi) Q s := by
  refine e_c12_isAhead (br_c (fun _ => q) (fun z => m_isIn (fun y => yes1 ?_) (fun _ => no0 q)))
  rcases ht with ht | ht
  · exact absurd ht z
  rw [wide, wide, wide, nI_toInt (by omega), nI_toInt (by omega)] at y
  have e : v = nI v.toInt.toNat := i_nI (by omega) (by omega)
  refine br_t ?_ q
  rw [hd, e, nI_add, show (999 : Int32) = nI 999 from rfl, nI_ltI (by decide) (by omega)]
  rcases Nat.lt_or_ge 999 (w0 + v.toInt.toNat) with g | g
  · exact g
  · exact absurd ⟨v.toInt.toNat, by omega, by omega, by omega, e⟩ ht
/-- what an office tells when it has been told -/
theorem IO_told {s : sT} {fin most ppl bk mi : Nat} {L : Nat → List Nat} {lc cc : List Nat} (I : IO s fin most ppl bk mi L lc cc) (h : 0 < ppl ∨ 0 < fin) : 2 ≤ fin ∧ rI s 162 49 = 1 ∧ rI s 193 6 = nI most := by
  rcases I.1 with q | ⟨q1, q2, -⟩
  · exact q
  · omega
theorem IO_not {s : sT} {fin most ppl bk mi : Nat} {L : Nat → List Nat} {lc cc : List Nat} (I : IO s fin most ppl bk mi L lc cc) (h : fin = 0) : ppl = 0 ∧ most = 4 ∧ rI s 162 49 = 0 := by
  rcases I.1 with ⟨q, -⟩ | ⟨q1, q2, q3, q4⟩
  · omega
  · exact ⟨q2, q3, q4⟩
theorem day_of (w : Nat → Nat) : w 0 = w (24 * 0) := rfl
/-- both go n days ahead: the numbers then are the same; all is as it was -/
theorem ahead2 {s : sT} {fin most ppl bk mi n : Nat} {L : Nat → List Nat} {lc cc : List Nat} {w : Nat → Nat} {κ : kT} {A : sT → Int32} {B : (Int32 → sT → Prop) → sT → Prop} {x : Nat} (I : IA s fin most ppl bk mi L lc cc w κ) (hn : n ≤ 40) (h0 : w 0 + n ≤ 999) (hA : ∀ s', StW s' 148 (dIt L lc ppl bk n (w, κ, 0)).1 → A s' = nI ((dIt L lc ppl bk n (w, κ, 0)).1 x)) (hB : ∀ s' (Q : Int32 → sT → Prop), NwW s' (dIt L lc ppl bk n (w, κ, 0)).1 → Q (nI ((dIt L lc ppl bk n (w, κ, 0)).1 x)) s' → B Q s') :
    c5_goAhead (nI n) (fun r s1 => r = 1 ∧ Fr (Xd 148) s s1 ∧ c12_putsAside (fun u => c12_daysGo (nI n) (fun u2 => B (fun y u3 => c12_takesBack (fun u4 => A s1 = y ∧ Inv u4) u3) u2) u) s1) s := by
  have I2 := I
  obtain ⟨-, ⟨-, -, -, -, -, -, -, OC, OR, -⟩, ⟨n1, n2, n3, n4, n5, n6, n7⟩, -⟩ := I2
  refine w_goAhead (κ := κ) OC n1 n7 (wV_M n3) hn h0 (fun s1 F1 W1 K1 => ⟨rfl, F1, ?_⟩)
  have r1 : ∀ a j, a ≠ 31 → a ≠ 146 → (a < 148 ∨ 152 < a) → rI s1 a j = rI s a j := fun a j p q r => F1.1 _ _ (xd_f (by omega) q p)
  have N1 : NwW s1 w := fun k hk => by rw [r1 _ _ (by omega) (by omega) (by omega)]; exact n2 k hk
  refine w_putsAside N1 (fun s2 F2 A2 t2 => ?_)
  have r2 : ∀ a j, Xa a j = false → rI s2 a j = rI s1 a j := F2.1
  have N2 : NwW s2 w := NwW_fr F2 (fun _ _ => rfl) N1
  have OR1 : OCr s1 fin ppl bk L lc := OCr_fr F1 (fun a j q => xd_f (by omega) (by omega) (by omega)) OR
  have OR2 : OCr s2 fin ppl bk L lc := OCr_fr F2 (fun a j q => by rcases q with rfl | rfl | rfl | rfl | rfl | rfl <;> rfl) OR1
  refine w_daysGo (κ := κ) (th := true) OR2 t2 (by omega) N2 (fun q => by cases q) (wV_M n3) (by have := n3.1 0; omega) (fun s3 F3 N3 T3 e3 => hB s3 _ N3 ?_)
  have A3 : asW s3 w := fun k hk => by rw [F3.1 _ _ (xq_f (by omega) (by omega) (by omega))]; exact A2 k hk
  refine w_takesBack A3 (fun s4 F4 N4 t4 => ⟨hA s1 W1, ?_⟩)
  have F : Fr Xz s s4 := fr_tr (fr_tr (fr_mo F1 fun a j q => xz_d q) (fr_mo F2 fun a j q => xz_a q)) (fr_tr (fr_mo F3 fun a j q => xz_q q) (fr_mo F4 fun a j q => xz_n q))
  refine IA_Inv (IA_z I F N4 (fun j hj => ?_) t4 ?_)
  · have e4 : rI s4 200 j = rI s3 200 j := F4.1 _ _ (by
      rw [Bool.eq_false_iff]
      intro z
      unfold Xn at z
      simp only [Bool.or_eq_true, Bool.and_eq_true, Nat.beq_eq, Nat.ble_eq] at z
      omega)
    rw [e4, T3.1 rfl j hj, r2 _ _ rfl, r1 _ _ (by omega) (by omega) (by omega)]
  · obtain ⟨κ', K1⟩ := K1
    have rr : ∀ a j, (a = 148 ∨ a = 152) → rI s4 a j = rI s1 a j := fun a j q => by
      have e1 : rI s4 a j = rI s3 a j := F4.1 _ _ (by rcases q with rfl | rfl <;> rfl)
      have e2 : rI s3 a j = rI s2 a j := F3.1 _ _ (by rcases q with rfl | rfl <;> rfl)
      have e3 : rI s2 a j = rI s1 a j := F2.1 _ _ (by rcases q with rfl | rfl <;> rfl)
      rw [e1, e2, e3]
    obtain ⟨a, b, f, c, d, e⟩ := K1
    exact ⟨κ', by rw [rr _ _ (by omega)]; exact a, b, f, c, by rw [rr _ _ (by omega)]; exact d, fun k hk j hj => by rw [rr _ _ (by omega)]; exact e k hk j hj⟩
theorem op_later {s : sT} (v x : Int32) (I : Inv s) : two Inv (c11_later v x) (c12_later v x) s := by
  obtain ⟨fin, most, ppl, bk, mi, L, lc, cc, w, κ, I⟩ := I
  have I2 := I
  obtain ⟨-, io, ⟨n1, n2, n3, n4, n5, n6, n7⟩, -⟩ := I2
  have io2 := io
  obtain ⟨-, -, -, -, -, -, -, ⟨o1, o2, o3, o4, o5, -⟩, ⟨-, -, -, r4, r5, -⟩, -⟩ := io2
  have hd0 := n3.1 0
  by_cases h : ∃ p, p < ppl ∧ v = nI p
  · obtain ⟨p, hp, rfl⟩ := h
    have ht := (IO_told io (by omega)).2.1
    refine e_c11_later (perC_t o5 o2 hp (yes1 ?_))
    by_cases h2 : ∃ n, n < 41 ∧ w 0 + n ≤ 999 ∧ x = nI n
    · obtain ⟨n, hn, h0, rfl⟩ := h2
      have := ahead2 (x := 25 + 2 * p) (A := fun s => rI s 150 p) (B := fun Q s => c12_hungerOf (nI p) Q s) I (n := n) (by omega) h0 (fun s' W => W.2.2.2.1 p (by omega)) (fun s' Q N h => ?_)
      · refine mo_c5_goAhead this (fun r s1 q => ?_)
        obtain ⟨rfl, F1, q⟩ := q
        have g : ∀ a j, a = 193 ∨ a = 162 ∨ a = 200 → rI s1 a j = rI s a j := fun a j z => F1.1 _ _ (xd_f (by omega) (by omega) (by omega))
        refine yes1 ⟨vp_in_nI (by omega) (by decide), ?_⟩
        rw [nI_clamp (by omega)]
        exact e_c12_later (perR_t (by rw [g _ _ (by omega)]; exact r5) o2 hp (yes1 (ahR_t (lo := 0) (hi := 40) (by rw [g _ _ (by omega)]; exact ht) (by rw [g _ _ (by omega)]; exact n2 0 (by omega)) (by omega) (by omega) (by decide) h0 (yes1 q))))
      · refine e_c12_hungerOf ?_
        rw [vHun, nI_clamp (by omega), N _ (by omega)]
        exact ⟨vp_in_nI (by omega) (by decide), h⟩
    · refine goAhead_f n1.1 hd0 h2 (no0 (e_c12_later (perR_t r5 o2 hp (yes1 (ahR_f (lo := 0) (hi := 40) (n2 0 (by omega)) hd0 (by decide) (by decide) (Or.inr ?_) (no0 ⟨rfl, IA_Inv I⟩))))))
      rintro ⟨n, -, g1, g2, g3⟩
      exact h2 ⟨n, by omega, g2, g3⟩
  · exact e_c11_later (perC_f o5 o2 h (no0 (e_c12_later (perR_f r5 o2 h (no0 ⟨rfl, IA_Inv I⟩)))))
theorem op_left {s : sT} (v x : Int32) (I : Inv s) : two Inv (c11_left v x) (c12_left v x) s := by
  obtain ⟨fin, most, ppl, bk, mi, L, lc, cc, w, κ, I⟩ := I
  have I2 := I
  obtain ⟨-, io, ⟨n1, n2, n3, n4, n5, n6, n7⟩, -⟩ := I2
  have io2 := io
  obtain ⟨-, -, -, -, -, -, -, ⟨o1, o2, o3, o4, o5, -⟩, ⟨-, -, -, r4, r5, -⟩, -⟩ := io2
  have hd0 := n3.1 0
  by_cases h : ∃ p, 1 ≤ p ∧ p ≤ fin ∧ v = nI p
  · obtain ⟨p, hp1, hp, rfl⟩ := h
    have ht := (IO_told io (by omega)).2.1
    refine e_c11_left (sizC_t o4 o1 hp1 hp (yes1 ?_))
    by_cases h2 : ∃ n, n < 41 ∧ w 0 + n ≤ 999 ∧ x = nI n
    · obtain ⟨n, hn, h0, rfl⟩ := h2
      have := ahead2 (x := p) (A := fun s => rI s 149 p) (B := fun Q s => vp_in (nI p) 158 ∧ (∀ x7 : Int32, x7 = (rI s 200 (nI p).toNatClampNeg) → Q x7 s)) I (n := n) (by omega) h0 (fun s' W => W.2.2.1 p hp1 (by omega)) (fun s' Q N h => ?_)
      · refine mo_c5_goAhead this (fun r s1 q => ?_)
        obtain ⟨rfl, F1, q⟩ := q
        have g : ∀ a j, a = 193 ∨ a = 162 ∨ a = 200 → rI s1 a j = rI s a j := fun a j z => F1.1 _ _ (xd_f (by omega) (by omega) (by omega))
        refine yes1 ⟨vp_in_nI (by omega) (by decide), ?_⟩
        rw [nI_clamp (by omega)]
        exact e_c12_left (sizR_t (by rw [g _ _ (by omega)]; exact r4) o1 hp1 hp (yes1 (ahR_t (lo := 0) (hi := 40) (by rw [g _ _ (by omega)]; exact ht) (by rw [g _ _ (by omega)]; exact n2 0 (by omega)) (by omega) (by omega) (by decide) h0 (yes1 q))))
      · refine ⟨vp_in_nI (by omega) (by decide), fun y hy => ?_⟩
        rw [nI_clamp (by omega), N _ (by omega)] at hy
        rw [hy]
        exact h
    · refine goAhead_f n1.1 hd0 h2 (no0 (e_c12_left (sizR_t r4 o1 hp1 hp (yes1 (ahR_f (lo := 0) (hi := 40) (n2 0 (by omega)) hd0 (by decide) (by decide) (Or.inr ?_) (no0 ⟨rfl, IA_Inv I⟩))))))
      rintro ⟨n, -, g1, g2, g3⟩
      exact h2 ⟨n, by omega, g2, g3⟩
  · exact e_c11_left (sizC_f o4 o1 h (no0 (e_c12_left (sizR_f r4 o1 h (no0 ⟨rfl, IA_Inv I⟩)))))
/-- the first day at which one is served -/
def svF (L : Nat → List Nat) (lc : List Nat) (ppl bk p : Nat) : Nat → Nat → (Nat → Nat) → Option Nat
  | 0, _, _ => none
  | m + 1, i, w => if w 0 < 999 then (if (dayF L lc ppl bk w (0, fun _ _ => 0)).2.2.testBit p = true then some i else svF L lc ppl bk p m (i + 1) (dayF L lc ppl bk w (0, fun _ _ => 0)).1) else none
def onI (o : Option Nat) : Int32 := match o with | none => -1 | some i => nI i
theorem w_svC {fin ppl bk p w0 : Nat} {L : Nat → List Nat} {lc : List Nat} {Q : Int32 → sT → Prop} {s : sT} (C : OCc s fin ppl bk L lc) (hp : p < 6) (hd : rI s 38 0 = nI w0) (h9 : w0 ≤ 999) : ∀ m i (w : Nat → Nat) s', i + m = 40 → Fr (Xd 148) s s' → StW s' 148 w → (∃ κ, KpC s' 148 κ) → wM w → w 0 = w0 + i → (∀ s'', Fr (Xd 148) s s'' → (∃ κ, KpC s'' 148 κ) → Q (onI (svF L lc ppl bk p m i w)) s'') → c5_firstServed_13 (nI p) (nI i) Q s'
  | 0, i, w, s', e, F, W, K, hM, h0, h => by
    have e : i = 40 := e
    subst e
    exact e_c5_firstServed_13 (br_f (by decide) (h s' F K))
  | m + 1, i, w, s', e, F, W, K, hM, h0, h => by
    have hd' : rI s' 38 0 = nI w0 := by rw [F.1 _ _ (xd_f (by omega) (by omega) (by omega))]; exact hd
    refine e_c5_firstServed_13 (br_t (nI_lt (b := 40) (by omega) (by decide)) ?_)
    rw [hd', nI_add]
    unfold svF at h
    by_cases hl : w 0 < 999
    · rw [if_pos hl] at h
      obtain ⟨κ, K⟩ := K
      refine br_t (nI_lt (b := 999) (by omega) (by decide)) (w_passDay (Or.inr rfl) (OCc_d (Or.inr rfl) F C) W K hM (by omega) (fun u g1 g2 g3 => ?_))
      have sim := dayF_sim (L := L) (lc := lc) (ppl := ppl) (bk := bk) (w := w) (κ := κ) (κ' := (0, fun _ _ => 0))
      have hw6 := dayF_w (L := L) (lc := lc) (ppl := ppl) (bk := bk) (w := w) (κ := κ) C.2.1
      rw [sim.1] at g2
      rw [sim.2] at hw6 ⊢
      rw [bit_1 (by omega) (by omega), nI_1]
      refine br_c (fun q => ?_) (fun q => ?_)
      · rw [if_pos q] at h
        exact h u (fr_tr F g1) ⟨_, g3⟩
      · rw [if_neg q] at h
        exact w_svC C hp hd h9 m (i + 1) _ u (by omega) (fr_tr F g1) g2 ⟨_, g3⟩ (dayF_M hM (by omega)) (by rw [dayF_0]; omega) h
    · rw [if_neg hl] at h
      exact br_f (nI_nlt (b := 999) (by omega) (by omega)) (h s' F K)
theorem w_servedR {fin ppl bk p : Nat} {L : Nat → List Nat} {lc : List Nat} {w0 : Nat → Nat} {Q : Int32 → sT → Prop} {s0 : sT} (C : OCr s0 fin ppl bk L lc) (ht : rI s0 162 64 = 1) (hp : p < 6) (A : asW s0 w0) : ∀ m i (w : Nat → Nat) s, i + m = 40 → Fr Xq s0 s → NwW s w → th0 true s0 s (0, fun _ _ => 0) → wM w → w 0 ≤ 999 → (∀ s', Fr Xz s0 s' → NwW s' w0 → rI s' 162 64 = 0 → (∀ j, 37 ≤ j → rI s' 200 j = rI s0 200 j) → (∀ a j, a = 148 ∨ a = 152 → rI s' a j = rI s0 a j) → Q (onI (svF L lc ppl bk p m i w)) s') → c12_served_18 (nI p) (-1) (nI i) Q s
  | m, i, w, s, e, F, N, T, hM, h0, h => by
    have fin_ : ∀ (o : Int32) (s1 : sT), Fr Xq s0 s1 → th0 true s0 s1 (0, fun _ _ => 0) → (∀ s', Fr Xz s0 s' → NwW s' w0 → rI s' 162 64 = 0 → (∀ j, 37 ≤ j → rI s' 200 j = rI s0 200 j) → (∀ a j, a = 148 ∨ a = 152 → rI s' a j = rI s0 a j) → Q o s') → c12_takesBack (fun u3 => Q o u3) s1 := fun o s1 F1 T1 hq => by
      refine w_takesBack (fun k hk => by rw [F1.1 _ _ (xq_f (by omega) (by omega) (by omega))]; exact A k hk) (fun s2 F2 N2 t2 => hq s2 (fr_tr (fr_mo F1 fun a j q => xz_q q) (fr_mo F2 fun a j q => xz_n q)) N2 t2 (fun j hj => ?_) (fun a j hj => ?_))
      · rw [F2.1 _ _ ?_, T1.1 rfl j hj]
        rw [Bool.eq_false_iff]
        intro z
        unfold Xn at z
        simp only [Bool.or_eq_true, Bool.and_eq_true, Nat.beq_eq, Nat.ble_eq] at z
        omega
      · have e1 : rI s2 a j = rI s1 a j := F2.1 _ _ (by rcases hj with rfl | rfl <;> rfl)
        have e2 : rI s1 a j = rI s0 a j := F1.1 _ _ (by rcases hj with rfl | rfl <;> rfl)
        rw [e1, e2]
    match m, e, h with
    | 0, e, h =>
      have e : i = 40 := e
      subst e
      exact e_c12_served_18 (br_f (by decide) (fin_ _ s F T h))
    | m + 1, e, h =>
      unfold svF at h
      refine e_c12_served_18 (br_t (nI_lt (b := 40) (by omega) (by decide)) ?_)
      rw [N 0 (by omega)]
      by_cases hl : w 0 < 999
      · rw [if_pos hl] at h
        refine br_t (nI_lt (b := 999) hl (by decide)) (br_t rfl (w_dayGoes (κ := (0, fun _ _ => 0)) C (by rw [ht]; rfl) F N ⟨T.1, fun q => by cases q⟩ hM (fun u g1 g2 g3 g4 g5 => ?_)))
        have hw6 := dayF_w (L := L) (lc := lc) (ppl := ppl) (bk := bk) (w := w) (κ := (0, fun _ _ => 0)) C.2.1
        rw [g4, bit_1 (by omega) (by omega), nI_1]
        refine br_c (fun q => ?_) (fun q => ?_)
        · rw [if_pos q] at h
          -- found: the next round ends
          have hne : ¬ nI i = (-1 : Int32) := fun z => by
            have := congrArg Int32.toInt z
            rw [nI_toInt (by omega)] at this
            have e : ((-1 : Int32)).toInt = -1 := rfl
            omega
          have hT := fin_ _ u g1 ⟨g3.1, fun q => by cases q⟩ h
          exact e_c12_served_18 (br_c (fun _ => br_c (fun _ => br_f hne hT) (fun _ => hT)) (fun _ => hT))
        · rw [if_neg q] at h
          exact w_servedR C ht hp A m (i + 1) _ u (by omega) g1 g2 ⟨g3.1, fun q => by cases q⟩ (dayF_M hM (by omega)) (by rw [dayF_0]; omega) h
      · rw [if_neg hl] at h
        exact br_f (nI_nlt (b := 999) (by omega) (by omega)) (fin_ _ s F T h)
theorem op_served {s : sT} (v : Int32) (I : Inv s) : two Inv (c11_served v) (c12_served v) s := by
  obtain ⟨fin, most, ppl, bk, mi, L, lc, cc, w, κ, I⟩ := I
  have I2 := I
  obtain ⟨-, io, ⟨n1, n2, n3, n4, n5, n6, n7⟩, -⟩ := I2
  have io2 := io
  obtain ⟨-, -, -, -, -, -, -, OC, OR, -⟩ := io2
  have hd0 := n3.1 0
  by_cases h : ∃ p, p < ppl ∧ v = nI p
  · obtain ⟨p, hp, rfl⟩ := h
    have o2 := OC.2.1
    refine e_c11_served (perC_t OC.2.2.2.2.1 o2 hp (yes1 (e_c5_firstServed (w_takeCourse (by omega) n1 (fun u F W1 => ?_)))))
    have F' : Fr (Xd 148) s u := fr_mo F (fun a j q => xd_s (xs_t (by
      unfold Xk at q
      simp only [Bool.or_eq_true, Bool.and_eq_true, Nat.beq_eq] at q
      omega)))
    have K1 : ∃ κ, KpC u 148 κ := by
      obtain ⟨κ', a, b, f, c, d, e⟩ := n7
      exact ⟨κ', by rw [F.1 _ _ (xk_f (by omega))]; exact a, b, f, c, by rw [F.1 _ _ (xk_f (by omega))]; exact d, fun k hk j hj => by rw [F.1 _ _ (xk_f (by omega))]; exact e k hk j hj⟩
    refine w_svC OC (by omega) n1.1 hd0 40 0 w u rfl F' W1 K1 (wV_M n3) rfl (fun s1 F1 K1 => ?_)
    have r1 : ∀ a j, a ≠ 31 → a ≠ 146 → (a < 148 ∨ 152 < a) → rI s1 a j = rI s a j := fun a j p q r => F1.1 _ _ (xd_f (by omega) q p)
    have N1 : NwW s1 w := fun k hk => by rw [r1 _ _ (by omega) (by omega) (by omega)]; exact n2 k hk
    refine e_c12_served (perR_t (by rw [r1 _ _ (by omega) (by omega) (by omega)]; exact OR.2.2.2.2.1) o2 hp (yes1 (w_putsAside N1 (fun s2 F2 A2 t2 => ?_))))
    have OR2 : OCr s2 fin ppl bk L lc := OCr_fr F2 (fun a j q => by rcases q with rfl | rfl | rfl | rfl | rfl | rfl <;> rfl) (OCr_fr F1 (fun a j q => xd_f (by omega) (by omega) (by omega)) OR)
    refine w_servedR OR2 t2 (by omega) A2 40 0 w s2 rfl fr_rf (NwW_fr F2 (fun _ _ => rfl) N1) ⟨fun _ j _ => rfl, fun q => by cases q⟩ (wV_M n3) hd0 (fun s3 F3 N3 t3 g3 k3 => ⟨rfl, ?_⟩)
    refine IA_Inv (IA_z I (fr_tr (fr_mo F1 fun a j q => xz_d q) (fr_tr (fr_mo F2 fun a j q => xz_a q) F3)) N3 (fun j hj => ?_) t3 ?_)
    · rw [g3 j hj, F2.1 _ _ rfl, r1 _ _ (by omega) (by omega) (by omega)]
    · obtain ⟨κ', a, b, f, c, d, e⟩ := K1
      have rr : ∀ a j, (a = 148 ∨ a = 152) → rI s3 a j = rI s1 a j := fun a j q => by
        rw [k3 a j q]
        exact F2.1 _ _ (by rcases q with rfl | rfl <;> rfl)
      exact ⟨κ', by rw [rr _ _ (by omega)]; exact a, b, f, c, by rw [rr _ _ (by omega)]; exact d, fun k hk j hj => by rw [rr _ _ (by omega)]; exact e k hk j hj⟩
  · exact e_c11_served (perC_f OC.2.2.2.2.1 OC.2.1 h (no0 (e_c12_served (perR_f OR.2.2.2.2.1 OC.2.1 h (no0 ⟨rfl, IA_Inv I⟩)))))
