theorem pcH_1 (m : Nat) : pcH (m + 1) 1 = 1 := by
  have h : pcH (m + 1) 1 = 1 % 2 + pcH m (1 / 2) := rfl
  rw [h, show (1 : Nat) / 2 = 0 from rfl, pcH_0]
theorem pcH_or {x i : Nat} (hx : x < 2 ^ i) (hi : i < 24) : pcH 24 (x ||| 2 ^ i) = pcH 24 x + 1 := by
  have e : x ||| 2 ^ i = 2 ^ i + x := by
    have := Nat.two_pow_add_eq_or_of_lt hx 1
    rw [Nat.mul_one] at this
    rw [Nat.or_comm]
    exact this.symm
  obtain ⟨m, hm⟩ : ∃ m, 24 = (m + 1) + i := ⟨24 - i - 1, by omega⟩
  have h1 := pcH_k (m + 1) i (2 ^ i + x)
  have h2 := pcH_k (m + 1) i x
  have hp := Nat.two_pow_pos i
  rw [Nat.add_mod_left, Nat.mod_eq_of_lt hx, Nat.add_div_left _ hp, Nat.div_eq_of_lt hx, Nat.zero_add, pcH_1] at h1
  rw [Nat.mod_eq_of_lt hx, Nat.div_eq_of_lt hx, pcH_0] at h2
  rw [← hm] at h1 h2
  rw [e, h1, h2]
theorem w_gdR {fin most : Nat} {Q : Int32 → sT → Prop} {s : sT} (hf : fin ≤ 24) (hm6 : most ≤ 6) (hF : rI s 193 5 = nI fin) (ht : rI s 162 49 = 1) (h6 : rI s 193 6 = nI most) : ∀ m rest set, m ≤ fin → set < 2 ^ (fin - m) → rest < 2 ^ 45 → (rest = 0 → 0 < set) → Q (noN (gdF fin most m (most - pcH 24 set) rest set)) s → c12_greedy_31 (lN rest) (nI set) (nI (fin + 1 - m)) Q s
  | 0, rest, set, hm, hs, h45, h0, h => by
    unfold gdF at h
    refine e_c12_greedy_31 (e_c12_finest (br_t (by rw [hF]; exact nI_lt (by omega) (by omega)) ?_))
    rw [show (0 : Int64) = lN 0 from rfl, lN_eqB (by omega) (by decide)]
    refine br_c (fun q => ?_) (fun q => ?_)
    · rw [if_pos q] at h
      have := h0 q
      unfold noN at h
      rw [if_neg (by omega)] at h
      exact h
    · rw [if_neg q] at h; exact h
  | m + 1, rest, set, hm, hs, h45, h0, h => by
    have hp := prt_le (fin - m)
    have hs24 : set < 2 ^ 24 := Nat.lt_of_lt_of_le hs (Nat.pow_le_pow_right (by decide) (by omega))
    have hs2 : set < 2 ^ (fin - m - 1) := by rw [show fin - m - 1 = fin - (m + 1) by omega]; exact hs
    have hpc := pcH_le 24 set
    obtain ⟨d1, d2⟩ := div24 (n := fin - m) (by omega) (by omega)
    unfold gdF at h
    have fin_ : ¬ (0 < rest ∧ 0 < most - pcH 24 set) → ((lN rest = (0 : Int64) → Q (nI set) s) ∧ (¬ lN rest = (0 : Int64) → Q (-1 : Int32) s)) := fun q => by
      rw [if_neg q] at h
      rw [show (0 : Int64) = lN 0 from rfl, lN_eqB (by omega) (by decide)]
      refine br_c (fun q => ?_) (fun q => ?_)
      · rw [if_pos q] at h
        have := h0 q
        unfold noN at h
        rw [if_neg (by omega)] at h
        exact h
      · rw [if_neg q] at h; exact h
    refine e_c12_greedy_31 (e_c12_finest (br_f (by rw [hF]; exact nI_nlt (by omega) (by omega)) ?_))
    by_cases q1 : 0 < rest
    · refine br_t ((lN_ltB (a := 0) (by decide) (by omega)).2 q1) (w_bits hs24 (mpR ht h6 ?_))
      rw [nI_ltI (by omega) (by omega)]
      by_cases q2 : pcH 24 set < most
      · rw [if_pos ⟨q1, by omega⟩] at h
        rw [show fin + 1 - (m + 1) = fin - m by omega, d2, lN_ltB (by omega) (by omega), nI_1, show fin - m + 1 = fin + 1 - m by omega]
        refine br_t q2 ⟨d1, br_c (fun q3 => ?_) (fun q3 x hx => ⟨d1, fun y hy => ?_⟩)⟩
        · rw [if_neg (by omega)] at h
          exact w_gdR hf hm6 hF ht h6 m rest set (by omega) (Nat.lt_trans hs (Nat.pow_lt_pow_right (by decide) (by omega))) h45 h0 h
        · rw [if_pos (by omega)] at h
          rw [lN_sub (by omega)] at hy
          rw [show (1 : Int32) = nI 1 from rfl, pk_sub (by omega), show nI 1 = (1 : Int32) from rfl, one_shl (by omega), nI_or] at hx
          rw [hx, hy]
          have e := pcH_or hs2 (by omega)
          refine w_gdR hf hm6 hF ht h6 m _ _ (by omega) (or_lt (n := 0) hs (by omega)) (by omega) (fun _ => ?_) (by rw [e, show most - (pcH 24 set + 1) = most - pcH 24 set - 1 by omega]; exact h)
          have h1 : 2 ^ (fin - m - 1) ≤ set ||| 2 ^ (fin - m - 1) := Nat.right_le_or
          have := Nat.two_pow_pos (fin - m - 1)
          omega
      · exact br_f q2 (fin_ (fun z => by omega))
    · exact br_f (fun z => q1 ((lN_ltB (a := 0) (by decide) (by omega)).1 z)) (fin_ (fun z => q1 z.1))
theorem gdF_lt {fin most : Nat} (hf : fin ≤ 24) : ∀ m room rest set, m ≤ fin → set < 2 ^ (fin - m) → gdF fin most m room rest set < 2 ^ 24
  | 0, room, rest, set, hm, hs => by
    have : set < 2 ^ 24 := Nat.lt_of_lt_of_le hs (Nat.pow_le_pow_right (by decide) (by omega))
    unfold gdF
    split
    · exact this
    · decide
  | m + 1, room, rest, set, hm, hs => by
    have h24 : set < 2 ^ 24 := Nat.lt_of_lt_of_le hs (Nat.pow_le_pow_right (by decide) (by omega))
    unfold gdF
    split
    · split
      · exact gdF_lt hf m _ _ _ (by omega) (or_lt (n := 0) hs (by omega))
      · exact gdF_lt hf m _ _ _ (by omega) (Nat.lt_trans hs (Nat.pow_lt_pow_right (by decide) (by omega)))
    · split
      · exact h24
      · decide
theorem op_greedy {s : sT} (v x : Int32) (I : Inv s) : two Inv (c11_greedy v x) (c12_greedy v x) s := by
  obtain ⟨fin, most, ppl, bk, mi, L, lc, cc, w, κ, I⟩ := I
  obtain ⟨⟨c1, -⟩, io, -, -, -, ik⟩ := id I
  obtain ⟨-, m1, m6, -, eM, -, -, OC, OR, -⟩ := id io
  have h24 := OC.1
  have II := IA_Inv I
  have hFC := OC.2.2.2.1
  have hFR := OR.2.2.2.1
  by_cases hn : okS fin v x
  · obtain ⟨hf, a, b, a1, a2, b1, b2, rfl, rfl⟩ := hn
    obtain ⟨-, ht, h6⟩ := IO_told io (by omega)
    have hu := un_lt (b := b) a2
    refine e_c11_greedy (shC_t hFC h24 hf a1 a2 b1 b2 (yes1 (w_units a2 b1 b2 (e_c1_greedySet (fun y hy => ?_)))))
    rw [eM] at hy
    subst hy
    have := w_gdC (most := most) (Q := fun y5 u6 => c11_setOrNone y5 (fun r1 s1 => c12_greedy (nI a) (nI b) (fun r2 s2 => r1 = r2 ∧ Inv s2) s1) u6) (s := s) h24 hFC (prC_of c1) fin most (un a b) 0 (Nat.le_refl _) m6 hu ?_
    · rw [show fin + 1 - fin = 1 by omega] at this
      exact this
    · refine sonC (gdF_lt h24 fin _ _ _ (Nat.le_refl _) (by simp)) ?_
      refine e_c12_greedy (shR_t ht a1 a2 b1 b2 (yes1 (w_partsOf a2 b1 b2 ?_)))
      rw [show (0 : Int64) = lN 0 from rfl, lN_eqB (by omega) (by decide)]
      refine br_c (fun q => ?_) (fun q => ?_)
      · have e : gdF fin most fin most (un a b) 0 = 0 := by
          rw [q]
          cases fin with
          | zero => rfl
          | succ n =>
            unfold gdF
            rw [if_neg (by omega)]
            rfl
        rw [e]
        exact ⟨rfl, II⟩
      · have := w_gdR (Q := fun r2 s2 => noN (gdF fin most fin most (un a b) 0) = r2 ∧ Inv s2) (s := s) h24 m6 hFR ht h6 fin (un a b) 0 (Nat.le_refl _) (by simp) hu (fun z => absurd z q) ?_
        · rw [show fin + 1 - fin = 1 by omega] at this
          exact this
        · rw [pcH_0, Nat.sub_zero]
          exact ⟨rfl, II⟩
  · exact e_c11_greedy (shC_f hFC h24 hn (no0 (e_c12_greedy (shR_f (fun z => (IO_not io z).2.2) hn (no0 ⟨rfl, II⟩)))))
-- to mend
theorem mdS_ge {x g : Nat} (h1 : 1 ≤ g) (hb : x.testBit (g - 1) = true) : ∀ n, g ≤ n → prt g ≤ mdS x n := by
  intro n
  induction n with
  | zero => intro h; omega
  | succ n ih =>
    intro h
    unfold mdS
    rcases Nat.lt_or_ge n g with q | q
    · have e : g = n + 1 := by omega
      subst e
      rw [Nat.add_sub_cancel] at hb
      rw [if_pos hb]
      omega
    · have := ih q
      omega
abbrev m3 : Type := Nat × Int32 × Int32
def mCond (x U g c : Nat) : Bool := x.testBit (g - 1) && (!x.testBit (c - 1) && Nat.beq (mdS x 24 - prt g + prt c) U)
def mSt (x U g c : Nat) (z : m3) : m3 := if mCond x U g c = true then (z.1 + 1, if z.1 = 0 then nI g else z.2.1, if z.1 = 0 then nI c else z.2.2) else z
def mIn (x U g fin : Nat) : Nat → m3 → m3
  | 0, z => z
  | m + 1, z => mIn x U g fin m (mSt x U g (fin - m) z)
def mOut (x U fin : Nat) : Nat → m3 → m3
  | 0, z => z
  | m + 1, z => mOut x U fin m (mIn x U (fin - m) fin fin z)
theorem mCond_lN {x U g c : Nat} (hx : x < 2 ^ 24) (g1 : 1 ≤ g) (g2 : g ≤ 24) (hU : U < 2 ^ 45) (hb : x.testBit (g - 1) = true) : ((lN (mdS x 24) - lN (prt g)) + lN (prt c)) = lN U ↔ mdS x 24 - prt g + prt c = U := by
  have h1 := mdS_ge g1 hb 24 g2
  have h2 := mdS_le x 24
  have h3 := prt_le c
  rw [lN_sub h1, lN_add, lN_eqB (by omega) (by omega)]
theorem mIn_le {x U g fin : Nat} : ∀ m z, (mIn x U g fin m z).1 ≤ z.1 + m
  | 0, z => Nat.le_refl _
  | m + 1, z => by
    have := mIn_le (x := x) (U := U) (g := g) (fin := fin) m (mSt x U g (fin - m) z)
    have h : (mSt x U g (fin - m) z).1 ≤ z.1 + 1 := by
      unfold mSt
      split
      · exact Nat.le_refl _
      · omega
    unfold mIn
    omega
/-- the class: what stands in firstGoing, firstComing -/
def fGo (s : sT) (z : m3) : Prop := 0 < z.1 → rI s 35 4 = z.2.1 ∧ rI s 35 5 = z.2.2
def XM (a j : Nat) : Bool := Nat.beq a 35 && (Nat.beq j 4 || Nat.beq j 5)
theorem w_mnC1 {x U g fin : Nat} {Q : Int32 → sT → Prop} {X30 : Int32 → Int64 → Int32 → Int64 → Int32 → sT → Prop} {s0 : sT} (hf : fin ≤ 24) (hx : x < 2 ^ 24) (hU : U < 2 ^ 45) (g1 : 1 ≤ g) (g2 : g ≤ fin) (hF : rI s0 21 0 = nI fin) (hP : prC s0) : ∀ m (z : m3) s, m ≤ fin → z.1 + m < 2000 → Fr XM s0 s → fGo s z → (∀ s', Fr XM s0 s' → fGo s' (mIn x U g fin m z) → X30 (nI x) (lN U) (nI (mIn x U g fin m z).1) (lN (mdS x 24)) (nI (g + 1)) s') → c1_mendings_45 (nI x) (lN U) (nI z.1) (lN (mdS x 24)) (nI g) (nI (fin + 1 - m)) Q X30 s
  | 0, z, s, hm, hz, F, G, h => by
    refine e_c1_mendings_45 (br_t (by rw [F.1 _ _ rfl, hF]; exact nI_lt (by omega) (by omega)) ?_)
    rw [nI_1]
    exact h s F G
  | m + 1, z, s, hm, hz, F, G, h => by
    have en : fin + 1 - (m + 1) = fin - m := by omega
    have en2 : fin - m + 1 = fin + 1 - m := by omega
    have hc := h
    unfold mIn at h
    have skip : mCond x U g (fin - m) = false → c1_mendings_45 (nI x) (lN U) (nI z.1) (lN (mdS x 24)) (nI g) (nI (fin + 1 - m)) Q X30 s := fun q => by
      have e : mSt x U g (fin - m) z = z := by
        unfold mSt
        rw [if_neg (by rw [q]; decide)]
      rw [e] at h
      exact w_mnC1 hf hx hU g1 g2 hF hP m z s (by omega) (by omega) F G h
    refine e_c1_mendings_45 (br_f (by rw [F.1 _ _ rfl, hF]; exact nI_nlt (by omega) (by omega)) ?_)
    rw [en, show (1 : Int32) = nI 1 from rfl, pk_sub g1, pk_sub (by omega : 1 ≤ fin - m), show nI 1 = (1 : Int32) from rfl, bit_1 (by omega) (by omega), bit_0 (by omega) (by omega)]
    refine br_c (fun q => br_c (fun q2 => e_c1_mendings_85 (br_f (by decide) ?_)) (fun q2 => e_c1_mendings_85 (br_t rfl ?_))) (fun q => e_c1_mendings_85 (br_t rfl ?_))
    · rw [nI_clamp (by omega), nI_clamp (by omega), prC_fr F (fun _ => rfl) hP g g1 (by omega), prC_fr F (fun _ => rfl) hP (fin - m) (by omega) (by omega), mCond_lN hx g1 (by omega) hU q, nI_1, nI_1, en2]
      refine ⟨vp_in_nI (by omega) (by decide), vp_in_nI (by omega) (by decide), br_c (fun q3 => ?_) (fun q3 => skip ?_)⟩
      · have e : mSt x U g (fin - m) z = (z.1 + 1, if z.1 = 0 then nI g else z.2.1, if z.1 = 0 then nI (fin - m) else z.2.2) := by
          unfold mSt mCond
          rw [q, q2, q3]
          simp
        rw [e] at h
        refine br_c (fun q4 u hu t ht => ?_) (fun q4 => ?_)
        · have z0 : z.1 = 0 := by
            rw [show (0 : Int32) = nI 0 from rfl, nI_eq (by omega) (by decide)] at q4
            exact q4
          refine w_mnC1 hf hx hU g1 g2 hF hP m (z.1 + 1, if z.1 = 0 then nI g else z.2.1, if z.1 = 0 then nI (fin - m) else z.2.2) t (by omega) (by show z.1 + 1 + m < 2000; omega) (by rw [ht]; exact fr_wI (by rw [hu]; exact fr_wI F rfl) rfl) (fun _ => ⟨?_, ?_⟩) h
          · rw [ht, rI_wI, if_neg (by omega), hu, rI_wI, if_pos ⟨rfl, rfl⟩]
            exact (if_pos z0).symm
          · rw [ht, rI_wI, if_pos ⟨rfl, rfl⟩]
            exact (if_pos z0).symm
        · have z0 : ¬ z.1 = 0 := fun y => q4 (by rw [y]; rfl)
          obtain ⟨p1, p2⟩ := G (by omega)
          refine w_mnC1 hf hx hU g1 g2 hF hP m (z.1 + 1, if z.1 = 0 then nI g else z.2.1, if z.1 = 0 then nI (fin - m) else z.2.2) s (by omega) (by show z.1 + 1 + m < 2000; omega) F (fun _ => ⟨?_, ?_⟩) h
          · rw [p1]; exact (if_neg z0).symm
          · rw [p2]; exact (if_neg z0).symm
      · unfold mCond
        rw [q, q2, Bool.eq_false_iff.2 (fun y => q3 (Nat.eq_of_beq_eq_true y))]
        rfl
    · rw [nI_1, en2]
      refine skip ?_
      unfold mCond
      have : x.testBit (fin - m - 1) = true := by
        cases hb : x.testBit (fin - m - 1) with
        | true => rfl
        | false => exact absurd hb q2
      rw [this]
      simp
    · rw [nI_1, en2]
      refine skip ?_
      unfold mCond
      have : x.testBit (g - 1) = false := by
        cases hb : x.testBit (g - 1) with
        | true => exact absurd hb q
        | false => rfl
      rw [this]
      rfl
