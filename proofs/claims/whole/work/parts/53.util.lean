-- what calls ask ahead
theorem l0 : (0 : Int32).toInt = 0 := rfl
theorem l1 : (1 : Int32).toInt = 1 := rfl
theorem L0 : (0 : Int64).toInt = 0 := rfl
theorem L1 : (1 : Int64).toInt = 1 := rfl
theorem m_isIn {v a b : Int64} {Q : Int32 → sT → Prop} {s : sT} (h1 : a.toInt ≤ v.toInt ∧ v.toInt ≤ b.toInt → Q 1 s) (h0 : ¬ (a.toInt ≤ v.toInt ∧ v.toInt ≤ b.toInt) → Q 0 s) : c12_isIn v a b Q s := by
  refine e_c12_isIn ?_
  rw [fa_lt64, fa_lt64]
  exact br_c (fun q => h0 (by omega)) (fun q => br_c (fun r => h0 (by omega)) (fun r => h1 (by omega)))
theorem isIn_t {v a b : Int64} {Q : Int32 → sT → Prop} {s : sT} (h : a.toInt ≤ v.toInt ∧ v.toInt ≤ b.toInt) (q : Q 1 s) : c12_isIn v a b Q s := m_isIn (fun _ => q) (fun n => absurd h n)
theorem isIn_f {v a b : Int64} {Q : Int32 → sT → Prop} {s : sT} (h : ¬ (a.toInt ≤ v.toInt ∧ v.toInt ≤ b.toInt)) (q : Q 0 s) : c12_isIn v a b Q s := m_isIn (fun n => absurd n h) (fun _ => q)
theorem no_k {v : Int32} {n : Nat} (h : ¬ ∃ k, k < n ∧ v = nI k) : v.toInt < 0 ∨ (n : Int) ≤ v.toInt := by
  rcases Int.lt_or_le v.toInt 0 with q | q
  · exact Or.inl q
  · refine Or.inr ?_
    rcases Int.lt_or_le v.toInt n with z | z
    · have hb := fb_rng v
      exact absurd ⟨v.toInt.toNat, by omega, i_nI (by omega) (by omega)⟩ h
    · exact z
theorem one01 : (1 : Int32) = 0 ∨ (1 : Int32) = 1 := Or.inr rfl
theorem nil01 : (0 : Int32) = 0 ∨ (0 : Int32) = 1 := Or.inl rfl
theorem yes1 {A B : Prop} (h : B) : ((1 : Int32) = 0 → A) ∧ (¬ (1 : Int32) = 0 → B) := br_f (by decide) h
theorem no0 {A B : Prop} (h : A) : ((0 : Int32) = 0 → A) ∧ (¬ (0 : Int32) = 0 → B) := br_t rfl h
theorem perC_t {p ppl : Nat} {Q : Int32 → sT → Prop} {s : sT} (hP : rI s 21 2 = nI ppl) (h6 : ppl ≤ 6) (hp : p < ppl) (q : Q 1 s) : c11_isPerson (nI p) Q s :=
  e_c11_isPerson (br_f (nI_pos (by omega)) (br_t (by rw [hP]; exact nI_lt hp (by omega)) q))
theorem perC_f {v : Int32} {ppl : Nat} {Q : Int32 → sT → Prop} {s : sT} (hP : rI s 21 2 = nI ppl) (h6 : ppl ≤ 6) (hp : ¬ ∃ p, p < ppl ∧ v = nI p) (q : Q 0 s) : c11_isPerson v Q s := by
  have h := no_k hp
  refine e_c11_isPerson (br_c (fun _ => q) (fun z => br_f ?_ q))
  rw [fa_lt, l0] at z
  rw [hP, fa_lt, nI_toInt (by omega)]
  omega
theorem perR_t {p ppl : Nat} {Q : Int32 → sT → Prop} {s : sT} (hP : rI s 193 7 = nI ppl) (h6 : ppl ≤ 6) (hp : p < ppl) (q : Q 1 s) : c12_isPerson (nI p) Q s := by
  refine e_c12_isPerson (e_c12_personMany ?_)
  rw [hP, show (1 : Int32) = nI 1 from rfl, pk_sub (by omega)]
  refine isIn_t ?_ ⟨one01, q⟩
  rw [wide, wide, L0, nI_toInt (by omega), nI_toInt (by omega)]
  omega
theorem perR_f {v : Int32} {ppl : Nat} {Q : Int32 → sT → Prop} {s : sT} (hP : rI s 193 7 = nI ppl) (h6 : ppl ≤ 6) (hp : ¬ ∃ p, p < ppl ∧ v = nI p) (q : Q 0 s) : c12_isPerson v Q s := by
  have h := no_k hp
  refine e_c12_isPerson (e_c12_personMany ?_)
  refine isIn_f ?_ ⟨nil01, q⟩
  rw [hP, wide, wide, L0, fb_subI (by rw [nI_toInt (by omega), l1]; omega) (by rw [nI_toInt (by omega), l1]; omega), nI_toInt (by omega), l1]
  omega
theorem no_k1 {v : Int32} {n : Nat} (h : ¬ ∃ k, 1 ≤ k ∧ k ≤ n ∧ v = nI k) : v.toInt < 1 ∨ (n : Int) < v.toInt := by
  rcases Int.lt_or_le v.toInt 1 with q | q
  · exact Or.inl q
  · refine Or.inr ?_
    rcases Int.lt_or_le (n : Int) v.toInt with z | z
    · exact z
    · have hb := fb_rng v
      exact absurd ⟨v.toInt.toNat, by omega, by omega, i_nI (by omega) (by omega)⟩ h
theorem sizC_t {n fin : Nat} {Q : Int32 → sT → Prop} {s : sT} (hF : rI s 21 0 = nI fin) (h6 : fin ≤ 24) (h1 : 1 ≤ n) (hn : n ≤ fin) (q : Q 1 s) : c11_isSize (nI n) Q s :=
  e_c11_isSize (br_f (nI_nlt (b := 1) h1 (by omega)) (br_f (by rw [hF]; exact nI_nlt hn (by omega)) q))
theorem sizC_f {v : Int32} {fin : Nat} {Q : Int32 → sT → Prop} {s : sT} (hF : rI s 21 0 = nI fin) (h6 : fin ≤ 24) (hn : ¬ ∃ n, 1 ≤ n ∧ n ≤ fin ∧ v = nI n) (q : Q 0 s) : c11_isSize v Q s := by
  have h := no_k1 hn
  refine e_c11_isSize (br_c (fun _ => q) (fun z => br_t ?_ q))
  rw [fa_lt, l1] at z
  rw [hF, fa_lt, nI_toInt (by omega)]
  omega
theorem sizR_t {n fin : Nat} {Q : Int32 → sT → Prop} {s : sT} (hF : rI s 193 5 = nI fin) (h6 : fin ≤ 24) (h1 : 1 ≤ n) (hn : n ≤ fin) (q : Q 1 s) : c12_isSize (Int32.toInt64 (nI n)) Q s := by
  refine e_c12_isSize (e_c12_finest (isIn_t ?_ ⟨one01, q⟩))
  rw [hF, wide, wide, L1, nI_toInt (by omega), nI_toInt (by omega)]
  omega
theorem sizR_f {v : Int32} {fin : Nat} {Q : Int32 → sT → Prop} {s : sT} (hF : rI s 193 5 = nI fin) (h6 : fin ≤ 24) (hn : ¬ ∃ n, 1 ≤ n ∧ n ≤ fin ∧ v = nI n) (q : Q 0 s) : c12_isSize (Int32.toInt64 v) Q s := by
  have h := no_k1 hn
  refine e_c12_isSize (e_c12_finest (isIn_f ?_ ⟨nil01, q⟩))
  rw [hF, wide, wide, L1, nI_toInt (by omega)]
  omega
theorem offC_t {fin : Nat} {Q : Int32 → sT → Prop} {s : sT} (hF : rI s 21 0 = nI fin) (h6 : fin ≤ 24) (h1 : 1 ≤ fin) (q : Q 1 s) : c11_hasOffice Q s :=
  e_c11_hasOffice (br_t (by rw [hF]; exact nI_lt (a := 0) h1 (by omega)) q)
theorem offC_f {Q : Int32 → sT → Prop} {s : sT} (hF : rI s 21 0 = nI 0) (q : Q 0 s) : c11_hasOffice Q s :=
  e_c11_hasOffice (br_f (by rw [hF]; decide) q)
/-- two calls, one behind the other: the answers are one -/
def two (I : sT → Prop) (cx cm : (Int32 → sT → Prop) → sT → Prop) (s : sT) : Prop := cx (fun r1 s1 => cm (fun r2 s2 => r1 = r2 ∧ I s2) s1) s
def twoJ (I : sT → Prop) (cx cm : (Int64 → sT → Prop) → sT → Prop) (s : sT) : Prop := cx (fun r1 s1 => cm (fun r2 s2 => r1 = r2 ∧ I s2) s1) s
/-- one more is refused, in the class; in the reference -/
theorem refC {k : Nat} {Q : Int32 → sT → Prop} {s : sT} (hk : k < 6) (h : Q (-1) (wI s 1 k (rI s 1 k + 1))) : c11_refuse (nI k) Q s := by
  refine e_c11_refuse (br_f (nI_pos (by omega)) (br_t (nI_lt (b := 6) hk (by decide)) ⟨vp_in_nI hk (by decide), vp_in_nI hk (by decide), fun u hu => ?_⟩))
  rw [nI_clamp (by omega)] at hu
  rw [hu]
  exact h
theorem refR {k : Nat} {Q : Int32 → sT → Prop} {s : sT} (hk : k < 6) (h : Q (-1) (wI s 164 k (rI s 164 k + 1))) : c12_refuses (nI k) Q s := by
  refine e_c12_refuses ⟨vp_in_nI hk (by decide), vp_in_nI hk (by decide), fun u hu => ?_⟩
  rw [nI_clamp (by omega)] at hu
  rw [hu]
  exact h
theorem refB {k : Nat} {Q : Int32 → sT → Prop} {s : sT} (hk : k < 6) (h : Q 0 (wI s 164 k (rI s 164 k + 1))) : c12_isRefused (nI k) Q s := by
  refine e_c12_isRefused ⟨vp_in_nI hk (by decide), vp_in_nI hk (by decide), fun u hu => ?_⟩
  rw [nI_clamp (by omega)] at hu
  rw [hu]
  exact h
def XR (a _ : Nat) : Bool := Nat.beq a 1 || Nat.beq a 164
/-- off: two rows of places that have none in common -/
theorem off_XR {f : Nat → Nat → Bool} (h : ∀ j, f 1 j = false) (h2 : ∀ j, f 164 j = false) : off f XR := fun a j q => by
  unfold XR
  rw [Bool.eq_false_iff]
  intro z
  simp only [Bool.or_eq_true, Nat.beq_eq] at z
  rcases z with rfl | rfl
  · rw [h] at q; cases q
  · rw [h2] at q; cases q
theorem Inv_XR {s t : sT} (I : Inv s) (h : Fr XR s t) (hr : IR t) : Inv t := by
  obtain ⟨fin, most, ppl, bk, mi, L, lc, cc, w, κ, ⟨c1, c2, c3, c4, c5, c6⟩, i1, i2, i3, i4, i5⟩ := I
  have o : ∀ f : Nat → Nat → Bool, (∀ j, f 1 j = false) → (∀ j, f 164 j = false) → off f XR := fun f a b => off_XR a b
  exact ⟨fin, most, ppl, bk, mi, L, lc, cc, w, κ, ⟨IC_fr h (o _ (fun _ => rfl) fun _ => rfl) c1, IT_fr h (o _ (fun _ => rfl) fun _ => rfl) c2, hr, IF_fr h (o _ (fun _ => rfl) fun _ => rfl) c4, IP_fr h (o _ (fun _ => rfl) fun _ => rfl) c5, IS_fr h (o _ (fun _ => rfl) fun _ => rfl) c6⟩, IO_fr h (o _ (fun _ => rfl) fun _ => rfl) i1, IN_fr h (o _ (fun _ => rfl) fun _ => rfl) i2, IH_fr h (o _ (fun _ => rfl) fun _ => rfl) i3, IX_fr h (o _ (fun _ => rfl) fun _ => rfl) i4, IK_fr h (o _ (fun _ => rfl) fun _ => rfl) i5⟩
/-- both count one refusal more -/
theorem Inv_bump {s : sT} {k : Nat} (I : Inv s) : Inv (wI (wI s 1 k (rI s 1 k + 1)) 164 k (rI (wI s 1 k (rI s 1 k + 1)) 164 k + 1)) := by
  refine Inv_XR I (fr_wI (fr_wI fr_rf rfl) rfl) (fun j hj => ?_)
  obtain ⟨fin, most, ppl, bk, mi, L, lc, cc, w, κ, ⟨c1, c2, c3, -⟩, -⟩ := I
  simp only [rI_wI]
  by_cases q : j = k
  · subst q
    simp [c3 j hj]
  · simp [q, c3 j hj]
theorem ix_k {a : Int32} {k : Nat} (h : a = nI k) (hk : k < 2147483648) : a.toNatClampNeg = k := by rw [h]; exact nI_clamp hk
theorem op_status {s : sT} (v : Int32) (I : Inv s) : two Inv (c11_status v) (c12_status v) s := by
  have I2 := I
  obtain ⟨fin, most, ppl, bk, mi, L, lc, cc, w, κ, ⟨c1, c2, c3, -⟩, -⟩ := I2
  have L5 : (5 : Int64).toInt = 5 := rfl
  by_cases h : ∃ k, k < 6 ∧ v = nI k
  · obtain ⟨k, hk, rfl⟩ := h
    refine e_c11_status (br_f (nI_pos (by omega)) (br_t (nI_lt (b := 6) hk (by decide)) ⟨vp_in_nI hk (by decide), ?_⟩))
    rw [nI_clamp (by omega)]
    refine e_c12_status (isIn_t (by rw [wide, L0, L5, nI_toInt (by omega)]; omega) (yes1 ⟨vp_in_nI hk (by decide), ?_, I⟩))
    rw [nI_clamp (by omega)]
    exact c3 k hk
  · have hv := no_k h
    have hm : c12_status v (fun r2 s2 => -1 = r2 ∧ Inv s2) s := e_c12_status (isIn_f (by rw [wide, L0, L5]; omega) (no0 ⟨rfl, I⟩))
    refine e_c11_status (br_c (fun _ => hm) (fun z => br_f ?_ hm))
    rw [fa_lt, l0] at z
    rw [fa_lt]
    show ¬ v.toInt < 6
    omega
theorem op_fault {s : sT} (v : Int32) (I : Inv s) : two Inv (c11_fault v) (c12_fault v) s := by
  have I2 := I
  obtain ⟨fin, most, ppl, bk, mi, L, lc, cc, w, κ, ⟨c1, c2, c3, c4, -⟩, -⟩ := I2
  refine e_c11_fault (br_c (fun q => e_c12_fault (br_t q ⟨c4.1, I⟩)) (fun q => br_c (fun q2 => e_c12_fault (br_f q (br_t q2 ⟨c4.2, I⟩))) (fun q2 => e_c12_fault (br_f q (br_f q2 ⟨rfl, I⟩)))))
theorem op_octet {s : sT} (v : Int32) (I : Inv s) : two Inv (c11_octet v) (c12_octet v) s := by
  have I2 := I
  obtain ⟨fin, most, ppl, bk, mi, L, lc, cc, w, κ, ⟨c1, c2, c3, c4, ⟨n, h1, h2, h3, h4⟩, c6⟩, -⟩ := I2
  refine e_c11_octet (br_c (fun q => e_c12_octet (br_t q ⟨rfl, I⟩)) (fun q => br_c (fun q2 => ?_) (fun q2 => e_c12_octet (br_f q (br_f (by rw [h3, ← h2]; exact q2) ⟨rfl, I⟩)))))
  obtain ⟨k, hk, rfl⟩ := nI_of q
  have q2' := q2
  rw [h2, nI_ltI hk (by omega)] at q2'
  refine ⟨vp_in_nI (by omega) (by decide), e_c12_octet (br_f q (br_t (by rw [h3, ← h2]; exact q2) ⟨vp_in_nI (by omega) (by decide), ?_, I⟩))⟩
  rw [nI_clamp (by omega)]
  exact h4 k q2'
theorem op_seed {s : sT} (v : Int32) (I : Inv s) : two Inv (c11_seed v) (c12_seed v) s := by
  refine e_c11_seed (br_c (fun q => refC (k := 5) (by decide) (e_c12_seed (br_t q (refB (k := 5) (by decide) ⟨nil01, rfl, Inv_bump I⟩)))) (fun q u hu => e_c12_seed (br_f q (fun t ht => ⟨rfl, ?_⟩))))
  obtain ⟨fin, most, ppl, bk, mi, L, lc, cc, w, κ, ⟨c1, c2, c3, c4, c5, c6⟩, i1, i2, i3, i4, i5⟩ := I
  obtain ⟨k, hk, rfl⟩ := nI_of q
  have h : Fr (fun a j => (Nat.beq a 0 && Nat.beq j 15) || (Nat.beq a 162 && Nat.beq j 75)) s t := by
    rw [ht]
    refine fr_wJ ?_ rfl
    rw [hu]
    exact fr_wI fr_rf rfl
  have o : ∀ f : Nat → Nat → Bool, f 0 15 = false → f 162 75 = false → off f (fun a j => (Nat.beq a 0 && Nat.beq j 15) || (Nat.beq a 162 && Nat.beq j 75)) := fun f a b x y q => by
    rw [Bool.eq_false_iff]
    intro z
    simp only [Bool.or_eq_true, Bool.and_eq_true, Nat.beq_eq] at z
    rcases z with ⟨rfl, rfl⟩ | ⟨rfl, rfl⟩
    · rw [a] at q; cases q
    · rw [b] at q; cases q
  refine ⟨fin, most, ppl, bk, mi, L, lc, cc, w, κ, ⟨IC_fr h (o _ rfl rfl) c1, IT_fr h (o _ rfl rfl) c2, IR_fr h (o _ rfl rfl) c3, IF_fr h (o _ rfl rfl) c4, IP_fr h (o _ rfl rfl) c5, ⟨k, hk, ?_, ?_⟩⟩, IO_fr h (o _ rfl rfl) i1, IN_fr h (o _ rfl rfl) i2, IH_fr h (o _ rfl rfl) i3, IX_fr h (o _ rfl rfl) i4, IK_fr h (o _ rfl rfl) i5⟩
  · rw [ht, rI_wJ, hu, rI_wI, if_pos ⟨rfl, rfl⟩]
  · rw [ht, rJ_wJ, if_pos ⟨rfl, rfl⟩, nI_l (by omega)]
def XT (a j : Nat) : Bool := (Nat.beq a 2 && Nat.beq j 1) || (Nat.beq a 3 || ((Nat.beq a 162 && Nat.beq j 1) || Nat.beq a 163))
theorem off_XT {f : Nat → Nat → Bool} (h : f 2 1 = false) (h2 : ∀ j, f 3 j = false) (h3 : f 162 1 = false) (h4 : ∀ j, f 163 j = false) : off f XT := fun a j q => by
  unfold XT
  rw [Bool.eq_false_iff]
  intro z
  simp only [Bool.or_eq_true, Bool.and_eq_true, Nat.beq_eq] at z
  rcases z with ⟨rfl, rfl⟩ | rfl | ⟨rfl, rfl⟩ | rfl
  · rw [h] at q; cases q
  · rw [h2] at q; cases q
  · rw [h3] at q; cases q
  · rw [h4] at q; cases q
theorem Inv_XT {s t : sT} (I : Inv s) (h : Fr XT s t) (hr : IT t) : Inv t := by
  obtain ⟨fin, most, ppl, bk, mi, L, lc, cc, w, κ, ⟨c1, c2, c3, c4, c5, c6⟩, i1, i2, i3, i4, i5⟩ := I
  exact ⟨fin, most, ppl, bk, mi, L, lc, cc, w, κ, ⟨IC_fr h (off_XT rfl (fun _ => rfl) rfl fun _ => rfl) c1, hr, IR_fr h (off_XT rfl (fun _ => rfl) rfl fun _ => rfl) c3, IF_fr h (off_XT rfl (fun _ => rfl) rfl fun _ => rfl) c4, IP_fr h (off_XT rfl (fun _ => rfl) rfl fun _ => rfl) c5, IS_fr h (off_XT rfl (fun _ => rfl) rfl fun _ => rfl) c6⟩, IO_fr h (off_XT rfl (fun _ => rfl) rfl fun _ => rfl) i1, IN_fr h (off_XT rfl (fun _ => rfl) rfl fun _ => rfl) i2, IH_fr h (off_XT rfl (fun _ => rfl) rfl fun _ => rfl) i3, IX_fr h (off_XT rfl (fun _ => rfl) rfl fun _ => rfl) i4, IK_fr h (off_XT rfl (fun _ => rfl) rfl fun _ => rfl) i5⟩
theorem op_end {s : sT} (v : Int32) (I : Inv s) : two Inv (c11_end v) (c12_end v) s := by
  have I2 := I
  obtain ⟨fin, most, ppl, bk, mi, L, lc, cc, w, κ, ⟨c1, ⟨n, h1, h2, h3, h4⟩, -⟩, -⟩ := I2
  refine e_c11_end (br_c (fun q => refC (k := 0) (by decide) (e_c12_end (br_t q (fun u hu => ⟨rfl, hu ▸ Inv_bump I⟩)))) (fun q => br_c (fun q2 => refC (k := 0) (by decide) (e_c12_end (br_f q (br_t (by rw [rI_wI, if_neg (by omega), h3, ← h2]; exact q2) (fun u hu => ⟨rfl, hu ▸ Inv_bump I⟩))))) (fun q2 u hu => e_c12_end (br_f q (br_f (by rw [hu, rI_wI, if_neg (by omega), h3, ← h2]; exact q2) (fun t ht => ⟨rfl, ?_⟩))))))
  obtain ⟨k, hk, rfl⟩ := nI_of q
  rw [h2, nI_ltI (by omega) hk] at q2
  refine Inv_XT I (by rw [ht]; exact fr_wI (by rw [hu]; exact fr_wI fr_rf rfl) rfl) ⟨k, by omega, ?_, ?_, fun j hj => ?_⟩
  · rw [ht, rI_wI, if_neg (by omega), hu, rI_wI, if_pos ⟨rfl, rfl⟩]
  · rw [ht, rI_wI, if_pos ⟨rfl, rfl⟩]
  · rw [ht, rI_wI, if_neg (by omega), rI_wI, if_neg (by omega), hu, rI_wI, if_neg (by omega), rI_wI, if_neg (by omega)]
    exact h4 j hj
