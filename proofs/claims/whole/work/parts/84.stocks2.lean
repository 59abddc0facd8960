-- the reference's stocks
def okR (w0 : Nat) (bb : Nat → Nat → Nat) (d p b : Nat → Nat) (n r : Nat) : Prop := w0 + d r + 1 ≤ 999 ∧ okB bb d p b n r
theorem w_isSeenR {ppl c day F x : Nat} {d p b : Nat → Nat} {Q : Int32 → sT → Prop} {s : sT} (h6 : ppl ≤ 6) (hc : c ≤ 16) (h7 : rI s 162 69 = nI c) (R : IXe s ppl c d p b) (hF : F < 2 ^ 6) (h63 : rI s 162 63 = nI F) (hx : x ≤ 2000) (h0 : rI s 200 0 = nI x) (hd : day < 31) : ∀ m i, i + m = c → ((∀ r, i ≤ r → r < c → d r = day → x ≤ 999 ∧ B01 (F.testBit (p r)) = b r) → Q 1 s) → (¬ (∀ r, i ≤ r → r < c → d r = day → x ≤ 999 ∧ B01 (F.testBit (p r)) = b r) → Q 0 s) → c12_isAsSeen_2 (nI day) (nI i) Q s
  | 0, i, e, g1, g0 => e_c12_isAsSeen_2 (br_f (by rw [h7]; exact nI_nlt (by omega) (by omega)) (g1 (fun r a b => by omega)))
  | m + 1, i, e, g1, g0 => by
    obtain ⟨a1, a2, a3, b1, b2, b3⟩ := R i (by omega)
    refine e_c12_isAsSeen_2 (br_t (by rw [h7]; exact nI_lt (by omega) (by omega)) ?_)
    have h3 : ((3 : Int32) * nI i) = nI (3 * i) := by rw [show (3 : Int32) = nI 3 from rfl, pk_mul]
    rw [h3, show nI (3 * i) + (1 : Int32) = nI (3 * i + 1) from nI_1 _, show nI (3 * i) + (2 : Int32) = nI (3 * i + 2) from nI_add _ _, nI_clamp (by omega), nI_clamp (by omega), nI_clamp (by omega), b1, b2, b3, h63, h0, bit_B hF (by omega), nI_1]
    have hB : B01 (F.testBit (p i)) < 2 := by unfold B01; split <;> omega
    rw [nI_eq (by omega) (by omega), nI_eq (by omega) (by omega), show (999 : Int32) = nI 999 from rfl, nI_ltI (by decide) (by omega)]
    refine ⟨vp_in_nI (by omega) (by decide), br_c (fun q => br_c (fun q2 => g0 (fun z => ?_)) (fun q2 => ⟨vp_in_nI (by omega) (by decide), vp_in_nI (by omega) (by decide), br_c (fun q3 => ?_) (fun q3 => g0 (fun z => q3 (z i (Nat.le_refl _) (by omega) q).2))⟩)) (fun q => ?_)⟩
    · have := (z i (Nat.le_refl _) (by omega) q).1
      omega
    · refine w_isSeenR h6 hc h7 R hF h63 hx h0 hd m (i + 1) (by omega) (fun z => g1 (fun r r1 r2 r3 => ?_)) (fun z => g0 (fun y => z (fun r r1 r2 r3 => y r (by omega) r2 r3)))
      by_cases y : r = i
      · rw [y]; exact ⟨by omega, q3⟩
      · exact z r (by omega) r2 r3
    · refine w_isSeenR h6 hc h7 R hF h63 hx h0 hd m (i + 1) (by omega) (fun z => g1 (fun r r1 r2 r3 => ?_)) (fun z => g0 (fun y => z (fun r r1 r2 r3 => y r (by omega) r2 r3)))
      by_cases y : r = i
      · rw [y] at r3; exact absurd r3 q
      · exact z r (by omega) r2 r3
def XS (a j : Nat) : Bool := Xq a j || Nat.beq a 211
theorem xs2_f {a j : Nat} (h : a ≠ 239) (h2 : a ≠ 162) (h3 : a ≠ 200) (h4 : a ≠ 211) : XS a j = false := by
  unfold XS
  rw [xq_f h h2 h3, Bool.false_or, Bool.eq_false_iff]
  intro z
  exact h4 (Nat.beq_eq.mp z)
theorem xs2_q {a j : Nat} (h : Xq a j = true) : XS a j = true := by unfold XS; rw [h]; rfl
def upto (w0 : Nat) (bb : Nat → Nat → Nat) (c : Nat) (d p b : Nat → Nat) (n k : Nat) : Prop := ∀ r, r < c → d r < k → okR w0 bb d p b n r
theorem w_stockR_in {fin ppl bk z n a c : Nat} {L : Nat → List Nat} {lc : List Nat} {w : Nat → Nat} {d p b : Nat → Nat} {Q : Int32 → sT → Prop} {X : Int32 → Int32 → Int32 → sT → Prop} {s0 : sT} (C : OCr s0 fin ppl bk L lc) (hV : wV fin ppl w) (ht : rI s0 162 64 = 1) (hc : c ≤ 16) (h7 : rI s0 162 69 = nI c) (R : IXe s0 ppl c d p b) (hn : n < 31) (hz : 1 ≤ z ∧ z ≤ fin) (A : asW s0 w) (h : ∀ s', Fr XS s0 s' → NwW s' w → (∀ j, 37 ≤ j → rI s' 200 j = rI s0 200 j) → seenT s' 211 (fun n d => sv L lc ppl bk (uN w z n) d) 31 (n + 1) 0 → ∀ a', (upto (w 0) (fun n d => sv L lc ppl bk (uN w z n) d) c d p b n 31 → a' = a ||| 2 ^ n) → (¬ upto (w 0) (fun n d => sv L lc ppl bk (uN w z n) d) c d p b n 31 → a' = a) → X (nI z) (nI a') (nI (n + 1)) s') : ∀ m k v s, k + m = 31 → Fr XS s0 s → NwW s (dDw L lc ppl bk k (uN w z n)) → (∀ j, 37 ≤ j → rI s 200 j = rI s0 200 j) → seenT s 211 (fun n d => sv L lc ppl bk (uN w z n) d) 31 n k → ((v = 1 ∧ upto (w 0) (fun n d => sv L lc ppl bk (uN w z n) d) c d p b n k) ∨ (v = 0 ∧ ¬ upto (w 0) (fun n d => sv L lc ppl bk (uN w z n) d) c d p b n k)) → c12_stockSet_27 (nI z) (nI a) (nI n) v (nI k) Q X s := by
  have h24 := C.1
  have o2 := C.2.1
  have hMn : wM (uN w z n) := uN_M (wV_M hV) hz.1 (by omega)
  have hu0 : (uN w z n) 0 = w 0 := uN_ne (by omega)
  have hw0 := hV.1 0
  intro m
  induction m with
  | zero =>
    intro k v s e F N G T hv
    have e : k = 31 := e
    subst e
    refine e_c12_stockSet_27 (br_t (by decide) (w_triesAnew (fun k hk => by rw [F.1 _ _ (xs2_f (by omega) (by omega) (by omega) (by omega))]; exact A k hk) (fun u F2 N2 => ?_)))
    have F3 : Fr XS s0 u := fr_tr F (fr_mo F2 (fun a j q => by
      unfold Xn at q
      simp only [Bool.and_eq_true, Nat.beq_eq] at q
      rw [q.1]
      rfl))
    have G3 : ∀ j, 37 ≤ j → rI u 200 j = rI s0 200 j := fun j hj => by
      rw [F2.1 _ _ ?_]
      · exact G j hj
      · unfold Xn
        rw [Bool.eq_false_iff]
        intro z
        simp only [Bool.and_eq_true, Nat.beq_eq, Nat.ble_eq] at z
        omega
    have T3 : seenT u 211 (fun n d => sv L lc ppl bk (uN w z n) d) 31 (n + 1) 0 := fun n' d' a1 a2 a3 => by
      rw [F2.1 211 _ rfl]
      exact T n' d' a1 a2 (by omega)
    rw [nI_1]
    rcases hv with ⟨rfl, hu⟩ | ⟨rfl, hu⟩
    · refine yes1 (fun x hx => ?_)
      rw [or_shl hn] at hx
      rw [hx]
      exact h u F3 N2 G3 T3 _ (fun _ => rfl) (fun q => absurd hu q)
    · exact no0 (h u F3 N2 G3 T3 _ (fun q => absurd q hu) (fun _ => rfl))
  | succ m ih =>
    intro k v s e F N G T hv
    have Cs : OCr s fin ppl bk L lc := OCr_fr F (fun a j q => xs2_f (by omega) (by omega) (by omega) (by omega)) C
    refine e_c12_stockSet_27 (br_f (nI_nlt (a := 30) (by omega) (by decide)) ?_)
    refine w_dayGoes (κ := (0, fun _ _ => 0)) (th := true) Cs (by rw [F.1 _ _ rfl, ht]; rfl) fr_rf N ⟨fun _ _ _ => rfl, fun q => by cases q⟩ (dDw_M hMn (by omega)) (fun u g1 g2 g3 g4 g5 => ?_)
    have hF6 : sv L lc ppl bk (uN w z n) k < 2 ^ 6 := sv_lt o2
    have g4' : rI u 162 63 = nI (sv L lc ppl bk (uN w z n) k) := g4
    have g2' : NwW u (dDw L lc ppl bk (k + 1) (uN w z n)) := g2
    have hi : ((31 : Int32) * nI n) + nI k = nI (31 * n + k) := by rw [show (31 : Int32) = nI 31 from rfl, pk_mul, nI_add]
    have Fu : Fr XS s0 u := fr_tr F (fr_mo g1 (fun a j q => xs2_q q))
    have step : ∀ v', ((v' = 1 ∧ upto (w 0) (fun n d => sv L lc ppl bk (uN w z n) d) c d p b n (k + 1)) ∨ (v' = 0 ∧ ¬ upto (w 0) (fun n d => sv L lc ppl bk (uN w z n) d) c d p b n (k + 1))) → vp_in (((31 : Int32) * nI n) + nI k) 961 ∧ (∀ u6 : sT, u6 = wI u 211 (((31 : Int32) * nI n) + nI k).toNatClampNeg (rI u 162 63) → c12_stockSet_27 (nI z) (nI a) (nI n) v' (nI k + (1 : Int32)) Q X u6) := fun v' hv' => by
      rw [hi, nI_clamp (by omega), nI_1, g4']
      refine ⟨vp_in_nI (by omega) (by decide), fun u6 hu6 => ?_⟩
      refine ih (k + 1) v' u6 (by omega) (by rw [hu6]; exact fr_wI Fu rfl) (fun j hj => by rw [hu6, rI_wI, if_neg (by omega)]; exact g2' j hj) (fun j hj => by rw [hu6, rI_wI, if_neg (by omega), g3.1 rfl j hj]; exact G j hj) (fun n' d' a1 a2 a3 => ?_) hv'
      rw [hu6, rI_wI]
      by_cases y : n' = n ∧ d' = k
      · rw [if_pos ⟨rfl, by rw [y.1, y.2]⟩, y.1, y.2]
      · rw [if_neg (by omega), g1.1 _ _ rfl]
        exact T n' d' a1 a2 (by omega)
    rcases hv with ⟨rfl, hu⟩ | ⟨rfl, hu⟩
    · refine yes1 (e_c12_isAsSeen (w_isSeenR (day := k) (F := sv L lc ppl bk (uN w z n) k) (x := w 0 + k + 1) (c := c) (d := d) (p := p) (b := b) o2 hc (by rw [Fu.1 _ _ rfl]; exact h7) (fun r hr => ?_) hF6 g4' (by omega) ?_ (by omega) c 0 (Nat.zero_add _) (fun y => yes1 ?_) (fun y => no0 ?_)))
      · obtain ⟨a1, a2, a3, b1, b2, b3⟩ := R r hr
        exact ⟨a1, a2, a3, by rw [Fu.1 _ _ rfl]; exact b1, by rw [Fu.1 _ _ rfl]; exact b2, by rw [Fu.1 _ _ rfl]; exact b3⟩
      · rw [g2' 0 (by decide), dDw_0, hu0]
        rfl
      · refine step 1 (Or.inl ⟨rfl, fun r r1 r2 => ?_⟩)
        by_cases q : d r = k
        · obtain ⟨y1, y2⟩ := y r (Nat.zero_le _) r1 q
          refine ⟨by rw [q]; exact y1, ?_⟩
          show B01 ((sv L lc ppl bk (uN w z n) (d r)).testBit (p r)) = b r
          rw [q]
          exact y2
        · exact hu r r1 (by omega)
      · refine step 0 (Or.inr ⟨rfl, fun q => y (fun r r0 r1 r2 => ?_)⟩)
        obtain ⟨y1, y2⟩ := q r r1 (by omega)
        have y2 : B01 ((sv L lc ppl bk (uN w z n) (d r)).testBit (p r)) = b r := y2
        rw [r2] at y1 y2
        exact ⟨y1, y2⟩
    · exact no0 (step 0 (Or.inr ⟨rfl, fun q => hu (fun r r1 r2 => q r r1 (by omega))⟩))
theorem w_stockR {fin ppl bk z c : Nat} {L : Nat → List Nat} {lc : List Nat} {w : Nat → Nat} {d p b : Nat → Nat} {hb : Nat → Bool} {Q : Int32 → sT → Prop} {s : sT} (C : OCr s fin ppl bk L lc) (hV : wV fin ppl w) (N : NwW s w) (hc : c ≤ 16) (h7 : rI s 162 69 = nI c) (R : IXe s ppl c d p b) (hz : 1 ≤ z ∧ z ≤ fin) (hH : ∀ n, hb n = true ↔ ∀ r, r < c → okR (w 0) (fun n d => sv L lc ppl bk (uN w z n) d) d p b n r) (h : ∀ s', Fr Xz s s' → NwW s' w → rI s' 162 64 = 0 → (∀ j, 37 ≤ j → rI s' 200 j = rI s 200 j) → (∀ a j, (a = 148 ∨ a = 152) ∨ a = 147 ∨ a = 21 ∨ a = 193 → rI s' a j = rI s a j) → seenT s' 211 (fun n d => sv L lc ppl bk (uN w z n) d) 31 31 0 → Q (nI (mB hb 31)) s') : c12_stockSet (nI z) Q s := by
  have h24 := C.1
  have o2 := C.2.1
  refine e_c12_stockSet (w_putsAside N (fun s0 F0 A0 t0 => ?_))
  have C0 : OCr s0 fin ppl bk L lc := OCr_fr F0 (fun a j q => by rcases q with rfl | rfl | rfl | rfl | rfl | rfl <;> rfl) C
  have R0 : IXe s0 ppl c d p b := fun r hr => by
    obtain ⟨a1, a2, a3, b1, b2, b3⟩ := R r hr
    exact ⟨a1, a2, a3, by rw [F0.1 _ _ rfl]; exact b1, by rw [F0.1 _ _ rfl]; exact b2, by rw [F0.1 _ _ rfl]; exact b3⟩
  have hd30 : ∀ r, r < c → d r < 31 := fun r hr => by
    have := (R r hr).1
    omega
  have main : ∀ m n s1, n + m = 31 → Fr XS s0 s1 → NwW s1 w → (∀ j, 37 ≤ j → rI s1 200 j = rI s0 200 j) → seenT s1 211 (fun n d => sv L lc ppl bk (uN w z n) d) 31 n 0 → c12_stockSet_8 (nI z) (nI (mB hb n)) (nI n) Q s1 := by
    intro m
    induction m with
    | zero =>
      intro n s1 e F N1 G T
      have e : n = 31 := e
      subst e
      refine e_c12_stockSet_8 (br_t (by decide) (w_takesBack (fun k hk => by rw [F.1 _ _ (xs2_f (by omega) (by omega) (by omega) (by omega))]; exact A0 k hk) (fun s2 F2 N2 t2 => h s2 (fr_tr (fr_mo F0 fun a j q => xz_a q) (fr_tr (fr_mo F fun a j q => ?_) (fr_mo F2 fun a j q => xz_n q))) N2 t2 (fun j hj => ?_) (fun a j hj => ?_) (fun n' d' a1 a2 a3 => ?_))))
      · unfold XS at q
        rw [Bool.or_eq_true] at q
        rcases q with q | q
        · exact xz_q q
        · rw [Nat.beq_eq.mp q]
          rfl
      · rw [F2.1 _ _ ?_, G j hj, F0.1 _ _ rfl]
        rw [Bool.eq_false_iff]
        intro z
        unfold Xn at z
        simp only [Bool.or_eq_true, Bool.and_eq_true, Nat.beq_eq, Nat.ble_eq] at z
        omega
      · have e1 : rI s2 a j = rI s1 a j := F2.1 _ _ (by rcases hj with (rfl | rfl) | rfl | rfl | rfl <;> rfl)
        have e2 : rI s1 a j = rI s0 a j := F.1 _ _ (by rcases hj with (rfl | rfl) | rfl | rfl | rfl <;> rfl)
        have e3 : rI s0 a j = rI s a j := F0.1 _ _ (by rcases hj with (rfl | rfl) | rfl | rfl | rfl <;> rfl)
        rw [e1, e2, e3]
      · rw [F2.1 _ _ rfl]
        exact T n' d' a1 a2 (by omega)
    | succ m ih =>
      intro n s1 e F N1 G T
      refine e_c12_stockSet_8 (br_f (nI_nlt (a := 30) (by omega) (by decide)) ⟨vp_in_nI (by omega) (by decide), fun u hu => ?_⟩)
      rw [nI_clamp (by omega)] at hu
      have Fu : Fr XS s0 u := by
        rw [hu]
        exact fr_wI F rfl
      refine w_stockR_in C0 hV t0 hc (by rw [F0.1 _ _ rfl]; exact h7) R0 (by omega) hz A0 (fun s2 F2 N2 G2 T2 a' g1 g0 => ?_) 31 0 1 u (by decide) Fu (NwW_1 N1 hu) (fun j hj => by rw [hu, rI_wI, if_neg (by omega)]; exact G j hj) (fun n' d' a1 a2 a3 => by rw [hu, rI_wI, if_neg (by omega)]; exact T n' d' a1 a2 a3) (Or.inl ⟨rfl, fun r r1 r2 => by omega⟩)
      have ea : a' = mB hb (n + 1) := by
        cases q : hb n with
        | false =>
          rw [mB_no q]
          refine g0 (fun y => ?_)
          rw [(hH n).2 (fun r r1 => y r r1 (hd30 r r1))] at q
          cases q
        | true =>
          rw [mB_yes q]
          exact g1 (fun r r1 _ => (hH n).1 q r r1)
      rw [ea]
      exact ih (n + 1) s2 (by omega) F2 N2 G2 T2
  exact main 31 0 s0 (by decide) fr_rf (NwW_fr F0 (fun _ _ => rfl) N) (fun _ _ => rfl) (fun n' d' a1 a2 a3 => by omega)
