-- are all served, by the class
def svA (L : Nat → List Nat) (lc : List Nat) (ppl bk : Nat) (w : Nat → Nat) : Prop := (dayF L lc ppl bk w (0, fun _ _ => 0)).2.2 = 2 ^ ppl - 1
theorem stP_bit {L : Nat → List Nat} {lc : List Nat} {z : zT} {p q : Nat} (h : q < p) : (stP L lc z p).2.2.testBit q = z.2.2.testBit q := by
  unfold stP
  split
  · rfl
  · show (z.2.2 ||| 2 ^ p).testBit q = _
    rw [fb_bit_set, decide_eq_false (by omega), Bool.or_false]
theorem dayL_bit {L : Nat → List Nat} {lc : List Nat} : ∀ {m p : Nat} {z : zT} {q : Nat}, q < p → (dayL L lc m p z).2.2.testBit q = z.2.2.testBit q
  | 0, _, _, _, _ => rfl
  | m + 1, p, z, q, h => (dayL_bit (m := m) (p := p + 1) (by omega)).trans (stP_bit h)
theorem ones_s (p : Nat) : (2 ^ p - 1) ||| 2 ^ p = 2 ^ (p + 1) - 1 := by
  apply Nat.eq_of_testBit_eq
  intro i
  rw [fb_bit_set, Nat.testBit_two_pow_sub_one, Nat.testBit_two_pow_sub_one]
  by_cases h : i = p
  · simp [h]
  · simp [h]; omega
theorem w_servesA {fin ppl bk : Nat} {L : Nat → List Nat} {lc : List Nat} {Q : Int32 → sT → Prop} {s : sT} (C : OCc s fin ppl bk L lc) : ∀ m p (z : zT) s', p + m = ppl → Fr (Xd 148) s s' → StW s' 148 z.1 → KpC s' 148 z.2.1 → wM z.1 → z.2.2 = 2 ^ p - 1 → (∀ s'', Fr (Xd 148) s s'' → K148 s'' → (dayL L lc m p z).2.2 = 2 ^ ppl - 1 → Q 1 s'') → (∀ s'', Fr (Xd 148) s s'' → K148 s'' → (dayL L lc m p z).2.2 ≠ 2 ^ ppl - 1 → Q 0 s'') → c0_servesAll_14 (nI p) Q s'
  | 0, p, z, s', e, hr, W, K, hM, hz, h1, h0 => by
    have e : p = ppl := e
    subst e
    have c5 := (OCc_d (Or.inr rfl) hr C).2.2.2.2.1
    have c2 := C.2.1
    exact e_c0_servesAll_14 (br_f (by rw [c5]; exact nI_nlt (Nat.le_refl _) (by omega)) (h1 s' hr ⟨_, K⟩ hz))
  | m + 1, p, z, s', e, hr, W, K, hM, hz, h1, h0 => by
    have C' := OCc_d (Or.inr rfl) hr C
    obtain ⟨c1, c2, c3, c4, c5, c6, c7, c8⟩ := C'
    have hp : p < ppl := by omega
    obtain ⟨cw, cx⟩ := c8 p hp
    have hp6 : p < 6 := by omega
    refine e_c0_servesAll_14 (br_t (by rw [c5]; exact nI_lt hp (by omega)) ?_)
    refine w_choose (Or.inr rfl) (c7 (by omega)) cw W.1 W.2.2.1 (W.2.2.2.1 p hp6) (wM_B hM) c4 c1 cx (fun s1 hs1 => ?_)
    have hr1 : Fr (Xd 148) s s1 := fr_tr hr (fr_mo hs1 (fun a j q => xd_c q))
    have W1 : StW s1 148 z.1 := StW_fr hs1 (fun a j h1 h2 => by unfold Xc; simp; omega) W
    have K1 : KpC s1 148 z.2.1 := KpC_fr hs1 (fun a j h1 => by unfold Xc; simp; omega) K
    have hxlt : chs (L p) (gdB lc z.1 p) < 2 ^ 24 := by
      rcases chs_mem (L := L p) (g := gdB lc z.1 p) with q | q
      · rw [q]; decide
      · exact (cw.2.2.2.2 _ q.1).2
    refine br_c (fun q => ?_) (fun q => ?_)
    · have q' : chs (L p) (gdB lc z.1 p) = 0 := by
        rw [show (0 : Int32) = nI 0 from rfl, nI_eq (by omega) (by decide)] at q
        exact q
      refine h0 s1 hr1 ⟨_, K1⟩ (fun y => ?_)
      have b1 : (dayL L lc (m + 1) p z).2.2.testBit p = false := by
        show (dayL L lc m (p + 1) (stP L lc z p)).2.2.testBit p = false
        rw [dayL_bit (by omega)]
        unfold stP
        rw [if_pos q']
        show z.2.2.testBit p = false
        rw [hz, Nat.testBit_two_pow_sub_one]
        simp
      rw [y, Nat.testBit_two_pow_sub_one] at b1
      simp at b1
      omega
    · have q' : ¬ chs (L p) (gdB lc z.1 p) = 0 := fun y => q (by rw [y]; rfl)
      have hsb : sB (chs (L p) (gdB lc z.1 p)) (fun n => decide (0 < z.1 n)) = true := by
        rcases chs_mem (L := L p) (g := gdB lc z.1 p) with y | y
        · exact absurd y q'
        · have := sB_iff.1 y.2
          rw [sB_iff]
          intro i hi hb
          have := this i hi hb
          unfold gdB at this
          rw [Bool.and_eq_true] at this
          exact this.1
      have hN : ∀ s2, Fr (Xd 148) s s2 → StW s2 148 (stP L lc z p).1 → KpC s2 148 (stP L lc z p).2.1 → (stP L lc z p).2.2 = 2 ^ (p + 1) - 1 → c0_servesAll_14 (nI (p + 1)) Q s2 := fun s2 g1 g2 g3 g4 =>
        w_servesA C m (p + 1) (stP L lc z p) s2 (by omega) g1 g2 g3 (stP_M hM) g4 h1 h0
      unfold stP at hN
      rw [if_neg q'] at hN
      refine w_hand hp6 hxlt W1 K1 (wM_B hM) hsb (fun s2 g1 g2 g3 => ?_)
      rw [nI_1]
      refine hN s2 (fr_tr hr1 (fr_mo g1 (fun a j q => xd_s q))) g2 g3 ?_
      show z.2.2 ||| 2 ^ p = _
      rw [hz]
      exact ones_s p
theorem StW_148 {s t : sT} {w : Nat → Nat} {n v : Nat} (W : StW s 148 w) (h1 : 1 ≤ n) (h2 : n < 25) (e : t = wI s 149 n (nI v)) : StW t 148 (uN w n v) := by
  obtain ⟨a, b, c, d, f⟩ := W
  refine ⟨?_, ?_, fun k q r => ?_, fun p hp => ?_, fun p hp => ?_⟩
  · rw [e, rI_wI, if_neg (by omega), uN_ne (by omega)]; exact a
  · rw [e, rI_wI, if_neg (by omega)]; exact b
  · rw [e, rI_wI]
    by_cases z : k = n
    · rw [if_pos ⟨rfl, z⟩, z, uN_eq]
    · rw [if_neg (fun y => z y.2), uN_ne z]; exact c k q r
  · rw [e, rI_wI, if_neg (by omega), uN_ne (by omega)]; exact d p hp
  · rw [e, rI_wI, if_neg (by omega), uN_ne (by omega)]; exact f p hp
/-- a write to the stock of the course ahead -/
theorem fr_149 {s t : sT} {n : Nat} {v : Int32} (e : t = wI s 149 n v) : Fr (fun a _ => Nat.beq a 149) s t := by rw [e]; exact fr_wI fr_rf rfl
theorem K148_149 {s t : sT} (F : Fr (fun a _ => Nat.beq a 149) s t) (K : K148 s) : K148 t := k148_fr F (fun a j z => by rcases z with rfl | rfl <;> rfl) K
theorem xd_149 {a j : Nat} (h : (fun a _ => Nat.beq a 149 : Nat → Nat → Bool) a j = true) : Xd 148 a j = true := by
  have := Nat.beq_eq.mp h
  exact xd_s (xs_t (by omega))
theorem w_servesAll {fin ppl bk : Nat} {L : Nat → List Nat} {lc : List Nat} {w : Nat → Nat} {Q : Int32 → sT → Prop} {s : sT} (C : OCc s fin ppl bk L lc) (W : StW s 148 w) (K : K148 s) (hM : wM w) (h1 : ∀ s', Fr (Xd 148) s s' → K148 s' → svA L lc ppl bk w → Q 1 s') (h0 : ∀ s', Fr (Xd 148) s s' → K148 s' → ¬ svA L lc ppl bk w → Q 0 s') : c0_servesAll Q s := by
  obtain ⟨κ, K⟩ := K
  have c6 := C.2.2.2.2.2.1
  have c3 := C.2.2.1
  have m1 := hM.2 1 (by decide)
  refine e_c0_servesAll (e_c9_addPieces ⟨vp_in_nI (n := 1) (by decide) (by decide), vp_in_nI (n := 1) (by decide) (by decide), fun u hu => ?_⟩)
  have e1 : (1 : Int32).toNatClampNeg = 1 := rfl
  rw [e1, W.2.2.1 1 (by decide) (by decide), c6, nI_add, min_nI (c := (999 : Int32)) (b := 999) rfl (by omega) (by decide)] at hu
  have F := fr_149 hu
  have Fd : Fr (Xd 148) s u := fr_mo F (fun a j q => xd_149 q)
  have sim := dayF_sim (L := L) (lc := lc) (ppl := ppl) (bk := bk) (w := w) (κ := κ) (κ' := (0, fun _ _ => 0))
  have es : svA L lc ppl bk w ↔ (dayL L lc ppl 0 (day0 bk w κ)).2.2 = 2 ^ ppl - 1 := by
    unfold svA
    rw [← sim.2]
    exact Iff.rfl
  refine w_servesA C ppl 0 (day0 bk w κ) u (Nat.zero_add _) Fd (StW_148 W (by decide) (by decide) hu) (KpC_fr F (fun a j z => by rcases z with rfl | rfl <;> rfl) K) (day0_M hM) rfl (fun s' g1 g2 g3 => h1 s' g1 g2 (es.2 g3)) (fun s' g1 g2 g3 => h0 s' g1 g2 (fun y => g3 (es.1 y)))
