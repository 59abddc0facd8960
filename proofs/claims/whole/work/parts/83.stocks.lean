/-- the days ahead, of numbers -/
def dDw (L : Nat → List Nat) (lc : List Nat) (ppl bk : Nat) : Nat → (Nat → Nat) → (Nat → Nat)
  | 0, w => w
  | n + 1, w => (dayF L lc ppl bk (dDw L lc ppl bk n w) (0, fun _ _ => 0)).1
/-- who is served at such a day -/
def sv (L : Nat → List Nat) (lc : List Nat) (ppl bk : Nat) (w : Nat → Nat) (d : Nat) : Nat := (dayF L lc ppl bk (dDw L lc ppl bk d w) (0, fun _ _ => 0)).2.2
theorem dDw_0 {L : Nat → List Nat} {lc : List Nat} {ppl bk : Nat} {w : Nat → Nat} : ∀ {d : Nat}, dDw L lc ppl bk d w 0 = w 0 + d
  | 0 => rfl
  | d + 1 => by
    show (dayF L lc ppl bk (dDw L lc ppl bk d w) (0, fun _ _ => 0)).1 0 = _
    rw [dayF_0, dDw_0 (d := d)]
    omega
theorem dDw_M {L : Nat → List Nat} {lc : List Nat} {ppl bk : Nat} {w : Nat → Nat} (h : wM w) : ∀ {d : Nat}, w 0 + d ≤ 2000 → wM (dDw L lc ppl bk d w)
  | 0, _ => h
  | d + 1, g => dayF_M (dDw_M h (d := d) (by omega)) (by rw [dDw_0]; omega)
theorem sv_lt {L : Nat → List Nat} {lc : List Nat} {ppl bk : Nat} {w : Nat → Nat} {d : Nat} (h : ppl ≤ 6) : sv L lc ppl bk w d < 2 ^ 6 := dayF_w h
def B01 (b : Bool) : Nat := if b = true then 1 else 0
theorem bit_B {F p : Nat} (hF : F < 2 ^ 6) (hp : p < 6) : ((nI F >>> (nI p &&& 31)) &&& (1 : Int32)) = nI (B01 (F.testBit p)) := bit_ob hF hp
-- the class watches
def XW (a j : Nat) : Bool := Xd 148 a j || Nat.beq a 156
theorem xw_f {a j : Nat} (h : a < 148 ∨ 152 < a) (h1 : a ≠ 146) (h2 : a ≠ 31) (h3 : a ≠ 156) : XW a j = false := by
  unfold XW
  rw [xd_f (by omega) h1 h2, Bool.false_or, Bool.eq_false_iff]
  intro z
  exact h3 (Nat.beq_eq.mp z)
theorem xWd {a j : Nat} (h : Xd 148 a j = true) : XW a j = true := by unfold XW; rw [h]; rfl
def seenT (s : sT) (a : Nat) (bb : Nat → Nat → Nat) (D n d : Nat) : Prop := ∀ n' d', d' < D → n' < 31 → (n' < n ∨ n' = n ∧ d' < d) → rI s a (31 * n' + d') = nI (bb n' d')
theorem w_watchC_in {fin ppl bk D z n : Nat} {L : Nat → List Nat} {lc : List Nat} {w : Nat → Nat} {Q : sT → Prop} {X : Int32 → Int32 → Int32 → sT → Prop} {s0 : sT} (C : OCc s0 fin ppl bk L lc) (hn : n < 31) (hD : D ≤ 31) (h0 : w 0 + D ≤ 999) (hM : wM (uN w z n)) (hz : 1 ≤ z) (h : ∀ s', Fr XW s0 s' → K148 s' → seenT s' 156 (fun n d => sv L lc ppl bk (uN w z n) d) D (n + 1) 0 → X (nI z) (nI D) (nI (n + 1)) s') : ∀ m d s, d + m = D → Fr XW s0 s → StW s 148 (dDw L lc ppl bk d (uN w z n)) → K148 s → seenT s 156 (fun n d => sv L lc ppl bk (uN w z n) d) D n d → c5_watch_32 (nI z) (nI D) (nI n) (nI d) Q X s := by
  have fin' : ∀ s, Fr XW s0 s → K148 s → seenT s 156 (fun n d => sv L lc ppl bk (uN w z n) d) D n D → X (nI z) (nI D) (nI n + (1 : Int32)) s := fun s F K T => by
    rw [nI_1]
    exact h s F K (fun n' d' a1 a2 a3 => T n' d' a1 a2 (by omega))
  intro m
  induction m with
  | zero =>
    intro d s e F W K T
    have e : d = D := e
    subst e
    exact e_c5_watch_32 (br_f (nI_nlt (Nat.le_refl _) (by omega)) (fin' s F K T))
  | succ m ih =>
    intro d s e F W K T
    refine e_c5_watch_32 (br_t (nI_lt (by omega) (by omega)) (br_t (nI_lt (b := 31) (by omega) (by decide)) ?_))
    obtain ⟨κ, Kv⟩ := K
    have hu0 : (uN w z n) 0 = w 0 := uN_ne (by omega)
    refine w_passDay (Or.inr rfl) (OCc_fr F (fun a j h1 h2 h3 => xw_f (by omega) (by omega) h3 (by omega)) C) W Kv (dDw_M hM (by omega)) (by rw [dDw_0]; omega) (fun u g1 g2 g3 => ?_)
    have sim := dayF_sim (L := L) (lc := lc) (ppl := ppl) (bk := bk) (w := dDw L lc ppl bk d (uN w z n)) (κ := κ) (κ' := (0, fun _ _ => 0))
    have hi : (nI n * (31 : Int32)) + nI d = nI (31 * n + d) := by rw [show (31 : Int32) = nI 31 from rfl, pk_mul, nI_add, Nat.mul_comm]
    rw [hi]
    refine ⟨vp_in_nI (by omega) (by decide), fun u3 hu3 => ?_⟩
    rw [nI_clamp (by omega)] at hu3
    have F3 : Fr XW s0 u3 := by
      rw [hu3]
      refine fr_wI (fr_tr F (fr_mo g1 (fun a j q => xWd q))) ?_
      unfold XW
      rw [show Nat.beq 156 156 = true from rfl, Bool.or_true]
    have F4 : Fr (fun a _ => Nat.beq a 156) u u3 := by rw [hu3]; exact fr_wI fr_rf rfl
    rw [nI_1]
    refine ih (d + 1) u3 (by omega) F3 ?_ ?_ (fun n' d' a1 a2 a3 => ?_)
    · rw [show dDw L lc ppl bk (d + 1) (uN w z n) = (dayF L lc ppl bk (dDw L lc ppl bk d (uN w z n)) (0, fun _ _ => 0)).1 from rfl, ← sim.1]
      refine StW_fr F4 (fun a j p q => ?_) g2
      rw [Bool.eq_false_iff]
      intro y
      have := Nat.beq_eq.mp y
      omega
    · exact k148_fr F4 (fun a j y => by rcases y with rfl | rfl <;> rfl) ⟨_, g3⟩
    · rw [hu3, rI_wI]
      by_cases y : n' = n ∧ d' = d
      · rw [if_pos ⟨rfl, by rw [y.1, y.2]⟩, sim.2, y.1, y.2]
        rfl
      · rw [if_neg (by omega), g1.1 _ _ (xd_f (by omega) (by omega) (by omega))]
        exact T n' d' a1 a2 (by omega)
theorem w_watchC {fin ppl bk D z : Nat} {L : Nat → List Nat} {lc : List Nat} {w : Nat → Nat} {Q : sT → Prop} {s0 : sT} (C : OCc s0 fin ppl bk L lc) (hV : wV fin ppl w) (W : StW s0 38 w) (hD : D ≤ 31) (h0 : w 0 + D ≤ 999) (hz : 1 ≤ z ∧ z ≤ fin) (K0 : K148 s0) (h : ∀ s', Fr XW s0 s' → K148 s' → seenT s' 156 (fun n d => sv L lc ppl bk (uN w z n) d) D 31 0 → Q s') : c5_watch (nI z) (nI D) Q s0 := by
  have h24 := C.1
  refine e_c5_watch ?_
  have main : ∀ m n s, n + m = 31 → Fr XW s0 s → K148 s → seenT s 156 (fun n d => sv L lc ppl bk (uN w z n) d) D n 0 → c5_watch_2 (nI z) (nI D) (nI n) Q s := by
    intro m
    induction m with
    | zero =>
      intro n s e F K T
      have e : n = 31 := e
      subst e
      exact e_c5_watch_2 (br_f (by decide) (h s F K T))
    | succ m ih =>
      intro n s e F K T
      have hMn : wM (uN w z n) := uN_M (wV_M hV) hz.1 (by omega)
      refine e_c5_watch_2 (br_t (nI_lt (b := 31) (by omega) (by decide)) ?_)
      refine w_takeCourse (w := w) (by omega) (StW_fr F (fun a j p q => xw_f (by omega) (by omega) (by omega) (by omega)) W) (fun u Fu Wu => ⟨vp_in_nI (by omega) (by decide), fun u2 hu2 => ?_⟩)
      rw [nI_clamp (by omega)] at hu2
      have Fu' : Fr (Xd 148) s u := fr_mo Fu (fun a j q => xd_s (xs_t (by
        unfold Xk at q
        simp only [Bool.or_eq_true, Bool.and_eq_true, Nat.beq_eq] at q
        omega)))
      have F2 : Fr (fun a j => Nat.beq a 149 && Nat.ble 1 j) u u2 := by
        rw [hu2]
        refine fr_wI fr_rf ?_
        rw [Bool.and_eq_true, Nat.ble_eq]
        exact ⟨rfl, hz.1⟩
      have F2' : Fr XW s0 u2 := fr_tr F (fr_tr (fr_mo Fu' (fun a j q => xWd q)) (fr_mo F2 (fun a j q => by
        simp only [Bool.and_eq_true, Nat.beq_eq, Nat.ble_eq] at q
        exact xWd (xd_s (xs_t (by omega))))))
      have r156 : ∀ j, rI u2 156 j = rI s 156 j := fun j => by
        rw [hu2, rI_wI, if_neg (by omega), Fu'.1 _ _ (xd_f (by omega) (by omega) (by omega))]
      refine w_watchC_in C (by omega) hD h0 hMn hz.1 (fun s' F' K' T' => ih (n + 1) s' (by omega) F' K' T') D 0 u2 (Nat.zero_add _) F2' ?_ ?_ (fun n' d' a1 a2 a3 => by rw [r156]; exact T n' d' a1 a2 a3)
      · show StW u2 148 (uN w z n)
        obtain ⟨a, b, c, d, f⟩ := Wu
        refine ⟨?_, ?_, fun k x y => ?_, fun p hp => ?_, fun p hp => ?_⟩
        · rw [hu2, rI_wI, if_neg (by omega), uN_ne (by omega)]; exact a
        · rw [hu2, rI_wI, if_neg (by omega)]; exact b
        · rw [hu2, rI_wI]
          by_cases y2 : k = z
          · rw [if_pos ⟨rfl, y2⟩, y2, uN_eq]
          · rw [if_neg (fun y => y2 y.2), uN_ne y2]; exact c k x y
        · rw [hu2, rI_wI, if_neg (by omega), uN_ne (by omega)]; exact d p hp
        · rw [hu2, rI_wI, if_neg (by omega), uN_ne (by omega)]; exact f p hp
      · exact k148_fr F2 (fun a j z => by rcases z with rfl | rfl <;> rfl) (K148_k Fu K)
  exact main 31 0 s0 (by decide) fr_rf K0 (fun n' d' a1 a2 a3 => by omega)
-- the readings
/-- the readings, as they stand in the class -/
def IXd (s : sT) (ppl c : Nat) (d p b : Nat → Nat) : Prop := ∀ r, r < c → d r ≤ 30 ∧ p r < ppl ∧ b r ≤ 1 ∧ rI s 155 (3 * r) = nI (d r) ∧ rI s 155 (3 * r + 1) = nI (p r) ∧ rI s 155 (3 * r + 2) = nI (b r)
def IXe (s : sT) (ppl c : Nat) (d p b : Nat → Nat) : Prop := ∀ r, r < c → d r ≤ 30 ∧ p r < ppl ∧ b r ≤ 1 ∧ rI s 210 (3 * r) = nI (d r) ∧ rI s 210 (3 * r + 1) = nI (p r) ∧ rI s 210 (3 * r + 2) = nI (b r)
theorem IX_d {s : sT} {ppl : Nat} (h6 : ppl ≤ 6) (I : IX s ppl) : ∃ c d p b, c ≤ 16 ∧ rI s 147 7 = nI c ∧ rI s 162 69 = nI c ∧ IXd s ppl c d p b ∧ IXe s ppl c d p b := by
  obtain ⟨c, h1, h2, h3, h4⟩ := I
  refine ⟨c, fun r => (rI s 155 (3 * r)).toNatClampNeg, fun r => (rI s 155 (3 * r + 1)).toNatClampNeg, fun r => (rI s 155 (3 * r + 2)).toNatClampNeg, h1, h2, h3, fun r hr => ?_, fun r hr => ?_⟩
  all_goals
    obtain ⟨d, p, b, a1, a2, a3, b1, b2, b3, c1, c2, c3⟩ := h4 r hr
    have e1 : (rI s 155 (3 * r)).toNatClampNeg = d := by rw [b1, nI_clamp (by omega)]
    have e2 : (rI s 155 (3 * r + 1)).toNatClampNeg = p := by rw [b2, nI_clamp (by omega)]
    have e3 : (rI s 155 (3 * r + 2)).toNatClampNeg = b := by rw [b3, nI_clamp (by omega)]
    dsimp only
    rw [e1, e2, e3]
  · exact ⟨a1, a2, a3, b1, b2, b3⟩
  · exact ⟨a1, a2, a3, c1, c2, c3⟩
def okB (bb : Nat → Nat → Nat) (d p b : Nat → Nat) (n r : Nat) : Prop := B01 ((bb n (d r)).testBit (p r)) = b r
theorem w_isSeenC {ppl c n D : Nat} {bb : Nat → Nat → Nat} {d p b : Nat → Nat} {Q : Int32 → sT → Prop} {s : sT} (h6 : ppl ≤ 6) (hc : c ≤ 16) (h7 : rI s 147 7 = nI c) (R : IXd s ppl c d p b) (hn : n < 31) (hD : ∀ r, r < c → d r < D) (hb : ∀ k, bb n k < 2 ^ 6) (T : seenT s 156 bb D 31 0) : ∀ m i, i + m = c → ((∀ r, i ≤ r → r < c → okB bb d p b n r) → Q 1 s) → (¬ (∀ r, i ≤ r → r < c → okB bb d p b n r) → Q 0 s) → c5_isAsSeen_2 (nI n) (nI i) Q s
  | 0, i, e, g1, g0 => e_c5_isAsSeen_2 (br_f (by rw [h7]; exact nI_nlt (by omega) (by omega)) (g1 (fun r a b => by omega)))
  | m + 1, i, e, g1, g0 => by
    obtain ⟨a1, a2, a3, b1, b2, b3⟩ := R i (by omega)
    have hDi := hD i (by omega)
    refine e_c5_isAsSeen_2 (br_t (by rw [h7]; exact nI_lt (by omega) (by omega)) ?_)
    have h3 : (nI i * (3 : Int32)) = nI (3 * i) := by rw [show (3 : Int32) = nI 3 from rfl, pk_mul, Nat.mul_comm]
    have h31 : (nI n * (31 : Int32)) = nI (31 * n) := by rw [show (31 : Int32) = nI 31 from rfl, pk_mul, Nat.mul_comm]
    rw [h3, h31, nI_clamp (by omega), b1, nI_add, show nI (3 * i) + (1 : Int32) = nI (3 * i + 1) from nI_1 _, show nI (3 * i) + (2 : Int32) = nI (3 * i + 2) from nI_add _ _, nI_clamp (by omega), nI_clamp (by omega), nI_clamp (by omega), b2, b3, T n (d i) hDi hn (Or.inl hn)]
    refine ⟨vp_in_nI (by omega) (by decide), vp_in_nI (by omega) (by decide), fun x hx => ⟨vp_in_nI (by omega) (by decide), vp_in_nI (by omega) (by decide), ?_⟩⟩
    rw [hx, bit_B (hb _) (by omega), nI_1]
    have hB : B01 ((bb n (d i)).testBit (p i)) < 2 := by unfold B01; split <;> omega
    rw [nI_eq (by omega) (by omega)]
    refine br_c (fun q => ?_) (fun q => g0 (fun z => q (z i (Nat.le_refl _) (by omega))))
    refine w_isSeenC h6 hc h7 R hn hD hb T m (i + 1) (by omega) (fun z => g1 (fun r r1 r2 => ?_)) (fun z => g0 (fun y => z (fun r r1 r2 => y r (by omega) r2)))
    by_cases y : r = i
    · rw [y]; exact q
    · exact z r (by omega) r2
theorem or_shl {a k : Nat} (h : k < 31) : nI a ||| ((1 : Int32) <<< (nI k &&& 31)) = nI (a ||| 2 ^ k) := by rw [one_shl h, nI_or]
theorem mB_no {hb : Nat → Bool} {n : Nat} (h : hb n = false) : mB hb (n + 1) = mB hb n := by
  rw [mB, h, if_neg (by decide), Nat.or_zero]
theorem mB_yes {hb : Nat → Bool} {n : Nat} (h : hb n = true) : mB hb (n + 1) = mB hb n ||| 2 ^ n := by
  rw [mB, h, if_pos rfl]
theorem w_setC {ppl c D : Nat} {bb : Nat → Nat → Nat} {d p b : Nat → Nat} {hb : Nat → Bool} {Q : Int32 → sT → Prop} {s : sT} (h6 : ppl ≤ 6) (hc : c ≤ 16) (h7 : rI s 147 7 = nI c) (R : IXd s ppl c d p b) (hD : ∀ r, r < c → d r < D) (hbb : ∀ n k, bb n k < 2 ^ 6) (T : seenT s 156 bb D 31 0) (hH : ∀ n, hb n = true ↔ ∀ r, r < c → okB bb d p b n r) (h : Q (nI (mB hb 31)) s) : c5_stocksAsSeen Q s := by
  have main : ∀ m i, i + m = 31 → c5_stocksAsSeen_4 (nI (mB hb i)) (nI i) Q s := by
    intro m
    induction m with
    | zero =>
      intro i e
      have e : i = 31 := e
      subst e
      exact e_c5_stocksAsSeen_4 (br_f (by decide) h)
    | succ m ih =>
      intro i e
      refine e_c5_stocksAsSeen_4 (br_t (nI_lt (b := 31) (by omega) (by decide)) (e_c5_isAsSeen (w_isSeenC (n := i) h6 hc h7 R (by omega) hD (hbb i) T c 0 (Nat.zero_add _) (fun z => yes1 (fun x hx => ?_)) (fun z => no0 ?_))))
      · rw [or_shl (by omega), ← mB_yes ((hH i).2 (fun r r1 => z r (Nat.zero_le _) r1))] at hx
        rw [hx, nI_1]
        exact ih (i + 1) (by omega)
      · rw [nI_1]
        have e2 : hb i = false := by
          cases q : hb i with
          | false => rfl
          | true => exact absurd (fun r _ r2 => (hH i).1 q r r2) z
        have := ih (i + 1) (by omega)
        rw [mB_no e2] at this
        exact this
  exact e_c5_stocksAsSeen (main 31 0 (by decide))
