theorem mB_zero {hb : Nat → Bool} (h : ∀ n, hb n = false) : ∀ n, mB hb n = 0
  | 0 => rfl
  | n + 1 => by rw [mB_no (h n)]; exact mB_zero h n
theorem xz_w {a j : Nat} (h : XW a j = true) : Xz a j = true := by
  unfold XW at h
  rw [Bool.or_eq_true] at h
  rcases h with q | q
  · exact xz_d q
  · rw [Nat.beq_eq.mp q]
    rfl
/-- what all stocks are, of the days -/
def bbF (L : Nat → List Nat) (lc : List Nat) (ppl bk z : Nat) (w : Nat → Nat) (n d : Nat) : Nat := sv L lc ppl bk (uN w z n) d
/-- which stocks can be -/
def hbF (c : Nat) (bb : Nat → Nat → Nat) (w0 : Nat) (d p b : Nat → Nat) (n : Nat) : Bool := decide (∀ r, r < c → (w0 + d r + 1 ≤ 999 ∧ B01 ((bb n (d r)).testBit (p r)) = b r))
theorem hbF_iff {c : Nat} {bb : Nat → Nat → Nat} {w0 : Nat} {d p b : Nat → Nat} {n : Nat} : hbF c bb w0 d p b n = true ↔ ∀ r, r < c → okR w0 bb d p b n r := by
  unfold hbF okR okB
  rw [decide_eq_true_eq]
def cmF (w0 : Nat) : Nat := if 999 - w0 < 31 then 999 - w0 else 31
theorem w_coming {w0 : Nat} {Q : Int32 → sT → Prop} {s : sT} (h0 : w0 ≤ 999) (hd : rI s 38 0 = nI w0) (h : Q (nI (cmF w0)) s) : c5_comingDays Q s := by
  refine e_c5_comingDays ?_
  rw [hd, show (999 : Int32) = nI 999 from rfl, pk_sub h0, min_nI (c := (31 : Int32)) (b := 31) rfl (by omega) (by decide)]
  exact h
theorem w_lastDay {ppl c : Nat} {d p b : Nat → Nat} {Q : Int32 → sT → Prop} {s : sT} (hc : c ≤ 16) (h7 : rI s 147 7 = nI c) (R : IXd s ppl c d p b) (h : ∀ y : Int32, y.toInt = (lsD d c 0 0 : Int) - 1 → Q y s) : c5_lastSeenDay Q s :=
  e_c5_lastSeenDay (w_lastC hc h7 (fun r hr => ⟨(R r hr).1, (R r hr).2.2.2.1⟩) c 0 0 (-1 : Int32) (Nat.zero_add _) (by decide) (by decide) h)
theorem lsD_le {d : Nat → Nat} {M : Nat} : ∀ m i a, a ≤ M → (∀ k, i ≤ k → k < i + m → d k + 1 ≤ M) → lsD d m i a ≤ M
  | 0, i, a, h, _ => h
  | m + 1, i, a, h, g => by
    unfold lsD
    refine lsD_le m (i + 1) _ ?_ (fun k x y => g k (by omega) (by omega))
    have := g i (Nat.le_refl _) (by omega)
    split <;> omega
theorem lsD_at {d : Nat → Nat} : ∀ m i a, lsD d m i a = a ∨ ∃ k, i ≤ k ∧ k < i + m ∧ lsD d m i a = d k + 1
  | 0, i, a => Or.inl rfl
  | m + 1, i, a => by
    unfold lsD
    rcases lsD_at (d := d) m (i + 1) (if a < d i + 1 then d i + 1 else a) with q | ⟨k, q1, q2, q3⟩
    · by_cases z : a < d i + 1
      · rw [if_pos z] at q ⊢
        exact Or.inr ⟨i, Nat.le_refl _, by omega, q⟩
      · rw [if_neg z] at q ⊢
        exact Or.inl q
    · exact Or.inr ⟨k, by omega, by omega, q3⟩
theorem hb_late {c : Nat} {bb : Nat → Nat → Nat} {w0 : Nat} {d p b : Nat → Nat} (h0 : w0 ≤ 999) (hd : ∀ r, r < c → d r ≤ 30) (h : cmF w0 < lsD d c 0 0) (n : Nat) : hbF c bb w0 d p b n = false := by
  cases q : hbF c bb w0 d p b n with
  | false => rfl
  | true =>
    have q := hbF_iff.1 q
    rcases lsD_at (d := d) c 0 0 with y | ⟨k, y1, y2, y3⟩
    · rw [y] at h; omega
    · have := (q k (by omega)).1
      have := hd k (by omega)
      rw [y3] at h
      unfold cmF at h
      split at h <;> omega
theorem hb_in {c : Nat} {bb : Nat → Nat → Nat} {w0 : Nat} {d p b : Nat → Nat} (h0 : w0 ≤ 999) (h : ¬ cmF w0 < lsD d c 0 0) (n : Nat) : hbF c bb w0 d p b n = true ↔ ∀ r, r < c → okB bb d p b n r := by
  rw [hbF_iff]
  refine ⟨fun q r hr => (q r hr).2, fun q r hr => ⟨?_, q r hr⟩⟩
  have := (lsD_ge (d := d) c 0 0).2 r (by omega) (by omega)
  unfold cmF at h
  split at h <;> omega
theorem w_possC {fin ppl bk z c : Nat} {L : Nat → List Nat} {lc : List Nat} {w : Nat → Nat} {d p b : Nat → Nat} {Q : Int32 → sT → Prop} {s : sT} (C : OCc s fin ppl bk L lc) (W : StW s 38 w) (hV : wV fin ppl w) (K : K148 s) (hz : 1 ≤ z ∧ z ≤ fin) (hc : c ≤ 16) (h7 : rI s 147 7 = nI c) (R : IXd s ppl c d p b) (h : ∀ s', Fr XW s s' → K148 s' → Q (nI (mB (hbF c (bbF L lc ppl bk z w) (w 0) d p b) 31)) s') : c5_possibleStocks (nI z) Q s := by
  have o2 := C.2.1
  have hw0 := hV.1 0
  have hd30 : ∀ r, r < c → d r ≤ 30 := fun r hr => (R r hr).1
  have hD31 : lsD d c 0 0 ≤ 31 := lsD_le c 0 0 (by decide) (fun k _ q => by have := hd30 k (by omega); omega)
  refine e_c5_possibleStocks (w_lastDay hc h7 R (fun y hy x3 hx3 => ?_))
  have e3 : x3 = nI (lsD d c 0 0) := by
    refine i_nI (by omega) ?_
    rw [hx3, fb_addI (by rw [hy, l1]; omega) (by rw [hy, l1]; omega), hy, l1]
    omega
  have hcm : cmF (w 0) ≤ 31 := by unfold cmF; split <;> omega
  rw [e3]
  refine w_coming hw0 W.1 ?_
  rw [nI_ltI (by omega) (by omega)]
  refine br_c (fun q => ?_) (fun q => ?_)
  · have := h s fr_rf K
    rw [mB_zero (fun n => hb_late hw0 hd30 q n)] at this
    exact this
  · have hle : w 0 + lsD d c 0 0 ≤ 999 := by
      unfold cmF at q
      split at q <;> omega
    refine w_watchC C hV W hD31 hle hz K (fun s' F K' T => w_setC (b := b) (p := p) (d := d) o2 hc (by rw [F.1 _ _ rfl]; exact h7) (fun r hr => ?_) (fun r hr => (lsD_ge (d := d) c 0 0).2 r (by omega) (by omega)) (fun n k => ?_) T (fun n => ?_) (h s' F K'))
    · obtain ⟨a1, a2, a3, b1, b2, b3⟩ := R r hr
      exact ⟨a1, a2, a3, by rw [F.1 _ _ rfl]; exact b1, by rw [F.1 _ _ rfl]; exact b2, by rw [F.1 _ _ rfl]; exact b3⟩
    · exact sv_lt o2
    · exact hb_in hw0 q n
theorem op_stocks {s : sT} (v : Int32) (I : Inv s) : two Inv (c11_stocks v) (c12_stocks v) s := by
  obtain ⟨fin, most, ppl, bk, mi, L, lc, cc, w, κ, I⟩ := I
  obtain ⟨-, io, ⟨n1, n2, n3, n4, n5, n6, n7⟩, -, ix, -⟩ := id I
  obtain ⟨-, -, -, -, -, -, -, OC, OR, -⟩ := id io
  have h24 := OC.1
  have o2 := OC.2.1
  have II := IA_Inv I
  obtain ⟨c, d, p, b, hc, h7, h7r, Rd, Re⟩ := IX_d o2 ix
  by_cases hv : ∃ n, 1 ≤ n ∧ n ≤ fin ∧ v = nI n
  · obtain ⟨z, z1, z2, rfl⟩ := hv
    refine e_c11_stocks (sizC_t OC.2.2.2.1 h24 z1 z2 (yes1 (w_possC OC n1 n3 n7 ⟨z1, z2⟩ hc h7 Rd (fun s1 F1 K1 => ?_))))
    have r1 : ∀ a j, a ≠ 31 → a ≠ 146 → (a < 148 ∨ 152 < a) → a ≠ 156 → rI s1 a j = rI s a j := fun a j p q r x => F1.1 _ _ (xw_f (by omega) q p x)
    have OR1 : OCr s1 fin ppl bk L lc := OCr_fr F1 (fun a j q => xw_f (by omega) (by omega) (by omega) (by omega)) OR
    refine e_c12_stocks (sizR_t OR1.2.2.2.1 h24 z1 z2 (yes1 (w_stockR OR1 n3 (fun k hk => by rw [r1 _ _ (by omega) (by omega) (by omega) (by omega)]; exact n2 k hk) hc (by rw [r1 _ _ (by omega) (by omega) (by omega) (by omega)]; exact h7r) (fun r hr => ?_) ⟨z1, z2⟩ (fun n => hbF_iff) (fun s2 F2 N2 t2 g2 k2 T2 => ⟨rfl, ?_⟩))))
    · obtain ⟨a1, a2, a3, b1, b2, b3⟩ := Re r hr
      exact ⟨a1, a2, a3, by rw [F1.1 _ _ rfl]; exact b1, by rw [F1.1 _ _ rfl]; exact b2, by rw [F1.1 _ _ rfl]; exact b3⟩
    · refine IA_Inv (IA_z I (fr_tr (fr_mo F1 fun a j q => xz_w q) F2) N2 (fun j hj => ?_) t2 ?_)
      · rw [g2 j hj, r1 _ _ (by omega) (by omega) (by omega) (by omega)]
      · obtain ⟨κ', a, b, f, c, d, e⟩ := K1
        exact ⟨κ', by rw [k2 _ _ (by omega)]; exact a, b, f, c, by rw [k2 _ _ (by omega)]; exact d, fun k hk j hj => by rw [k2 _ _ (by omega)]; exact e k hk j hj⟩
  · exact e_c11_stocks (sizC_f OC.2.2.2.1 h24 hv (no0 (e_c12_stocks (sizR_f OR.2.2.2.1 h24 hv (no0 ⟨rfl, II⟩)))))
