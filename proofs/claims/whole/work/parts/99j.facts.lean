-- the facts of a person
def ffQ (w : Nat → Nat) (tp bt wy : Nat → Nat) (i k : Nat) : Int := if k = 2 then w 0 else if k = 4 then w (25 + 2 * i) else if k = 5 then i else if k = 6 then tp i else if k = 7 then bt i else if k = 8 then wy i else if k = 9 then w (26 + 2 * i) else 0
def foQ (w : Nat → Nat) (Fi : Nat → Nat) (i c : Nat) (v : Int) : Int := if 1 ≤ v ∧ v ≤ 24 then (if c = 60 then (w v.toNat : Int) else if (Fi i).testBit (v.toNat - 1) = true then 1 else 0) else 0
def evQ (cs : List Nat) (w : Nat → Nat) (tp bt wy Fi : Nat → Nat) (i : Nat) : Int := match ev (ffQ w tp bt wy i) (foQ w Fi i) cs [] with
  | [x] => x
  | _ => 0
theorem alQ_k {k : Nat} (hk : k < 10) (h : alQ (40 + k) = true) : k = 2 ∨ k = 4 ∨ k = 5 ∨ k = 6 ∨ k = 7 ∨ k = 8 ∨ k = 9 := by
  have a : ∀ j, j < 10 → alQ (40 + j) = true → j = 2 ∨ j = 4 ∨ j = 5 ∨ j = 6 ∨ j = 7 ∨ j = 8 ∨ j = 9 := by decide
  exact a k hk h
/-- what the numbers of the people are -/
def qOK (w : Nat → Nat) (tp bt wy Fi : Nat → Nat) (fin ppl : Nat) : Prop := (∀ k, w k ≤ 999) ∧ (∀ k, fin < k → k ≤ 24 → w k = 0) ∧ ∀ i, i < ppl → tp i ≤ 24 ∧ bt i ≤ 24 ∧ wy i ≤ 32 ∧ Fi i < 2 ^ fin
theorem ffQ_rg {w tp bt wy Fi : Nat → Nat} {fin ppl i k : Nat} (h : qOK w tp bt wy Fi fin ppl) (h6 : ppl ≤ 6) (hi : i < ppl) : rg (ffQ w tp bt wy i k) := by
  obtain ⟨h1, -, h3⟩ := h
  obtain ⟨a, b, c, -⟩ := h3 i hi
  have d := h1 0
  have e := h1 (25 + 2 * i)
  have f := h1 (26 + 2 * i)
  unfold ffQ rg
  split
  · omega
  split
  · omega
  split
  · omega
  split
  · omega
  split
  · omega
  split
  · omega
  split <;> omega
theorem foQ_rg {w Fi : Nat → Nat} {i c : Nat} {v : Int} (h : ∀ k, w k ≤ 999) : rg (foQ w Fi i c v) := by
  have := h v.toNat
  unfold foQ rg
  split
  · split
    · omega
    · split <;> omega
  · omega
theorem foQ_hi {w tp bt wy Fi : Nat → Nat} {fin ppl i c : Nat} {v : Int} (h : qOK w tp bt wy Fi fin ppl) (hi : i < ppl) (hv : (fin : Int) < v) : foQ w Fi i c v = 0 := by
  obtain ⟨h1, h2, h3⟩ := h
  unfold foQ
  split
  · rename_i q
    split
    · rw [h2 _ (by omega) (by omega)]; rfl
    · rw [if_neg]
      rw [t_lt (h3 i hi).2.2.2 (by omega)]
      decide
  · rfl
def XQc (a _ : Nat) : Bool := Nat.beq a 159 || Nat.beq a 160
theorem w_ansC {fin ppl bk : Nat} {L : Nat → List Nat} {lc : List Nat} {w tp bt wy Fi : Nat → Nat} {cs : List Nat} {z : Bool} {Q : Int32 → sT → Prop} {s0 s : sT} {i : Nat} (C : OCc s0 fin ppl bk L lc) (W : StW s0 38 w) (hq : qOK w tp bt wy Fi fin ppl) (hi : i < ppl) (hwy : wy i = (L i).length) (e23 : rI s0 23 i = nI (tp i)) (e24 : rI s0 24 i = nI (bt i)) (e34 : rI s0 34 i = nI (Fi i)) (c1 : rI s0 157 2 = nI cs.length) (c2 : cs.length ≤ 1600) (c3 : ∀ k (h : k < cs.length), rI s0 158 k = nI (trc cs[k])) (c4 : tyL alQ cs [] = some [z]) (F : Fr XQc s0 s) (h : ∀ s' r, Fr XQc s0 s' → r.toInt = evQ cs w tp bt wy Fi i → tv [z] [evQ cs w tp bt wy Fi i] → Q r s') : c11_answerOf (nI i) Q s := by
  have o2 := C.2.1
  have h24 := C.1
  have hw := hq.1
  obtain ⟨a1, a2, a3, a4⟩ := hq.2.2 i hi
  have hW := C.2.2.2.2.2.2.2 i hi
  have g : ∀ a j, a ≠ 159 → a ≠ 160 → rI s a j = rI s0 a j := fun a j q1 q2 => F.1 _ _ (by
    unfold XQc
    rw [show Nat.beq a 159 = false from Bool.eq_false_iff.2 (fun y => q1 (Nat.beq_eq.mp y)), show Nat.beq a 160 = false from Bool.eq_false_iff.2 (fun y => q2 (Nat.beq_eq.mp y))]
    rfl)
  have vi : vp_in (nI i) 6 := vp_in_nI (by omega) (by decide)
  have ci : (nI i).toNatClampNeg = i := nI_clamp (by omega)
  refine e_c11_answerOf (fun u1 g1 u2 g2 => ⟨vi, fun u3 g3 => ⟨vi, fun u4 g4 => ⟨vi, fun u5 g5 => ⟨vi, fun u6 g6 => ⟨vi, fun u7 g7 => ⟨vi, fun u8 g8 u9 g9 => ?_⟩⟩⟩⟩⟩⟩)
  rw [ci] at g3 g4 g5 g6 g7 g8
  have k1 : ∀ a j, a ≠ 160 → rI u1 a j = rI s a j := fun a j q => by rw [g1, rI_wI, if_neg (by omega)]
  have k2 : ∀ a j, a ≠ 160 → rI u2 a j = rI s a j := fun a j q => by rw [g2, rI_wI, if_neg (by omega)]; exact k1 a j q
  have k3 : ∀ a j, a ≠ 160 → rI u3 a j = rI s a j := fun a j q => by rw [g3, rI_wI, if_neg (by omega)]; exact k2 a j q
  have k4 : ∀ a j, a ≠ 160 → rI u4 a j = rI s a j := fun a j q => by rw [g4, rI_wI, if_neg (by omega)]; exact k3 a j q
  have k5 : ∀ a j, a ≠ 160 → rI u5 a j = rI s a j := fun a j q => by rw [g5, rI_wI, if_neg (by omega)]; exact k4 a j q
  have k6 : ∀ a j, a ≠ 160 → rI u6 a j = rI s a j := fun a j q => by rw [g6, rI_wI, if_neg (by omega)]; exact k5 a j q
  have k7 : ∀ a j, a ≠ 160 → rI u7 a j = rI s a j := fun a j q => by rw [g7, rI_wI, if_neg (by omega)]; exact k6 a j q
  have k8 : ∀ a j, a ≠ 160 → rI u8 a j = rI s a j := fun a j q => by rw [g8, rI_wI, if_neg (by omega)]; exact k7 a j q
  rw [g _ _ (by decide) (by decide), W.1] at g1
  rw [k2 _ _ (by decide), g _ _ (by decide) (by decide), W.2.2.2.1 i (by omega)] at g3
  rw [k3 _ _ (by decide), g _ _ (by decide) (by decide), e23] at g4
  rw [k4 _ _ (by decide), g _ _ (by decide) (by decide), e24] at g5
  rw [k5 _ _ (by decide), g _ _ (by decide) (by decide), hW.1.2.2.1, ← hwy] at g6
  rw [k6 _ _ (by decide), g _ _ (by decide) (by decide), W.2.2.2.2 i (by omega)] at g7
  rw [k7 _ _ (by decide), g _ _ (by decide) (by decide), e34] at g8
  have F9 : Fr XQc s0 u9 := by
    rw [g9]
    refine fr_wC ?_ (fun _ => rfl)
    rw [g8, g7, g6, g5, g4, g3, g2, g1]
    exact fr_wI (fr_wI (fr_wI (fr_wI (fr_wI (fr_wI (fr_wI (fr_wI F rfl) rfl) rfl) rfl) rfl) rfl) rfl) rfl
  have lo : ∀ j, j < 11 → rI u9 160 j = rI u8 160 j := fun j hj => by
    rw [g9, rI_wC, if_pos rfl, pk_cpy_out (Or.inl hj), rA_r]
  have hi' : ∀ n, n < 25 → rI u9 160 (11 + n) = rI s0 39 n := fun n hn => by
    rw [g9, rI_wC, if_pos rfl, pk_cpy_in (by omega) (by omega), rA_r, show 0 + (11 + n - 11) = n by omega, k8 _ _ (by decide)]
    exact g _ _ (by decide) (by decide)
  refine w_reckon (al := alQ) (ff := ffQ w tp bt wy i) (fo := foQ w Fi i) (b := z) (by decide) ⟨rfl, fun k hk ha => ⟨?_, ffQ_rg hq o2 hi⟩, fun _ n n1 n2 => ⟨?_, foQ_rg hw⟩, fun _ => ⟨Fi i, Nat.lt_of_lt_of_le a4 (Nat.pow_le_pow_right (by decide) h24), ?_, fun n n1 n2 => ?_⟩, fun c n hn => ?_⟩ (by rw [F9.1 _ _ rfl]; exact c1) c2 (fun k hk => by rw [F9.1 158 k rfl]; exact c3 k hk) c4 (fun x r gg hx ht hr => ?_)
  · have b0 := hw 0
    have b1 := hw (25 + 2 * i)
    have b2 := hw (26 + 2 * i)
    rw [lo k (by omega)]
    rcases alQ_k hk ha with rfl | rfl | rfl | rfl | rfl | rfl | rfl
    · rw [g8, rI_wI, if_neg (by omega), g7, rI_wI, if_neg (by omega), g6, rI_wI, if_neg (by omega), g5, rI_wI, if_neg (by omega), g4, rI_wI, if_neg (by omega), g3, rI_wI, if_neg (by omega), g2, rI_wI, if_neg (by omega), g1, rI_wI, if_pos ⟨rfl, rfl⟩, nI_toInt (by omega)]; rfl
    · rw [g8, rI_wI, if_neg (by omega), g7, rI_wI, if_neg (by omega), g6, rI_wI, if_neg (by omega), g5, rI_wI, if_neg (by omega), g4, rI_wI, if_neg (by omega), g3, rI_wI, if_pos ⟨rfl, rfl⟩, nI_toInt (by omega)]; rfl
    · rw [g8, rI_wI, if_neg (by omega), g7, rI_wI, if_neg (by omega), g6, rI_wI, if_neg (by omega), g5, rI_wI, if_neg (by omega), g4, rI_wI, if_neg (by omega), g3, rI_wI, if_neg (by omega), g2, rI_wI, if_pos ⟨rfl, rfl⟩, nI_toInt (by omega)]; rfl
    · rw [g8, rI_wI, if_neg (by omega), g7, rI_wI, if_neg (by omega), g6, rI_wI, if_neg (by omega), g5, rI_wI, if_neg (by omega), g4, rI_wI, if_pos ⟨rfl, rfl⟩, nI_toInt (by omega)]; rfl
    · rw [g8, rI_wI, if_neg (by omega), g7, rI_wI, if_neg (by omega), g6, rI_wI, if_neg (by omega), g5, rI_wI, if_pos ⟨rfl, rfl⟩, nI_toInt (by omega)]; rfl
    · rw [g8, rI_wI, if_neg (by omega), g7, rI_wI, if_neg (by omega), g6, rI_wI, if_pos ⟨rfl, rfl⟩, nI_toInt (by omega)]; rfl
    · rw [g8, rI_wI, if_neg (by omega), g7, rI_wI, if_pos ⟨rfl, rfl⟩, nI_toInt (by omega)]; rfl
  · have b := hw n
    rw [hi' n (by omega), W.2.2.1 n n1 (by omega), nI_toInt (by omega)]
    unfold foQ
    rw [if_pos (by omega), if_pos rfl, Int.toNat_natCast]
  · rw [lo 10 (by decide), g8, rI_wI, if_pos ⟨rfl, rfl⟩]
  · unfold foQ
    rw [if_pos (by omega), if_neg (by decide), Int.toNat_natCast]
  · unfold foQ
    rw [if_neg (by omega)]
  · have ee : evQ cs w tp bt wy Fi i = x := by
      unfold evQ
      rw [hx]
    refine h _ r (fr_wC F9 (fun _ => rfl)) (by rw [ee]; exact hr) (by rw [ee]; exact ht)
/-- the facts of a person, in the reference -/
theorem facQ {fin ppl bk : Nat} {L : Nat → List Nat} {lc : List Nat} {w tp bt wy Fi : Nat → Nat} {s : sT} {i : Nat} (C : OCr s fin ppl bk L lc) (N : NwW s w) (hq : qOK w tp bt wy Fi fin ppl) (hi : i < ppl) (hwy : wy i = (L i).length) (e6 : rI s 195 (12 + 2 * i) = nI (tp i)) (e7 : rI s 195 (13 + 2 * i) = nI (bt i)) (eF : rI s 206 i = nI (Fi i)) (e61 : rI s 162 61 = nI i) : facR s i alQ (ffQ w tp bt wy i) (foQ w Fi i) := by
  have o2 := C.2.1
  have h24 := C.1
  have hw := hq.1
  obtain ⟨a1, a2, a3, a4⟩ := hq.2.2 i hi
  have hW := C.2.2.2.2.2.2.2 i hi
  have b0 := hw 0
  have b1 := hw (25 + 2 * i)
  have b2 := hw (26 + 2 * i)
  have rp : ∀ (f : Nat → Int64) (m a k : Nat), ¬ (a = 162 ∧ k = 107) → rI (rP s f m) a k = rI s a k := fun f m a k h => by rw [rI_rP, if_neg h]
  refine ⟨fun k hk ha => ⟨ffQ_rg hq o2 hi, ?_⟩, fun c hc _ x hx => ⟨foQ_rg hw, ?_⟩⟩
  · rcases alQ_k hk ha with rfl | rfl | rfl | rfl | rfl | rfl | rfl
    · refine ⟨Int32.toInt64 (nI (w 0)), by rw [wide, nI_toInt (by omega)]; rfl, fun f m Q h => e_c12_qPartOf (br_f (by decide) (br_f (by decide) (br_t rfl ?_)))⟩
      rw [rp _ _ _ _ (by omega), N 0 (by decide)]
      exact h
    · refine ⟨Int32.toInt64 (nI (w (25 + 2 * i))), by rw [wide, nI_toInt (by omega)]; rfl, fun f m Q h => e_c12_qPartOf (br_f (by decide) (br_f (by decide) (br_f (by decide) (br_f (by decide) (br_t rfl (e_c12_hungerOf ?_))))))⟩
      rw [rp _ _ _ _ (by omega), e61, vHun, nI_clamp (by omega), rp _ _ _ _ (by omega), N _ (by omega)]
      exact ⟨vp_in_nI (by omega) (by decide), h⟩
    · refine ⟨Int32.toInt64 (nI i), by rw [wide, nI_toInt (by omega)]; rfl, fun f m Q h => e_c12_qPartOf (br_f (by decide) (br_f (by decide) (br_f (by decide) (br_f (by decide) (br_f (by decide) (br_t rfl ?_))))))⟩
      rw [rp _ _ _ _ (by omega), e61]
      exact h
    · refine ⟨Int32.toInt64 (nI (tp i)), by rw [wide, nI_toInt (by omega)]; rfl, fun f m Q h => e_c12_qPartOf (br_f (by decide) (br_f (by decide) (br_f (by decide) (br_f (by decide) (br_f (by decide) (br_f (by decide) (br_t rfl ?_)))))))⟩
      rw [rp _ _ _ _ (by omega), e61, show (12 : Int32) + (2 : Int32) * nI i = nI (12 + 2 * i) by rw [show (12 : Int32) = nI 12 from rfl, show (2 : Int32) = nI 2 from rfl, pk_mul, nI_add], nI_clamp (by omega), rp _ _ _ _ (by omega), e6]
      exact ⟨vp_in_nI (by omega) (by decide), h⟩
    · refine ⟨Int32.toInt64 (nI (bt i)), by rw [wide, nI_toInt (by omega)]; rfl, fun f m Q h => e_c12_qPartOf (br_f (by decide) (br_f (by decide) (br_f (by decide) (br_f (by decide) (br_f (by decide) (br_f (by decide) (br_f (by decide) (br_t rfl ?_))))))))⟩
      rw [rp _ _ _ _ (by omega), e61, show (13 : Int32) + (2 : Int32) * nI i = nI (13 + 2 * i) by rw [show (13 : Int32) = nI 13 from rfl, show (2 : Int32) = nI 2 from rfl, pk_mul, nI_add], nI_clamp (by omega), rp _ _ _ _ (by omega), e7]
      exact ⟨vp_in_nI (by omega) (by decide), h⟩
    · refine ⟨Int32.toInt64 (nI (wy i)), by rw [wide, nI_toInt (by omega)]; rfl, fun f m Q h => e_c12_qPartOf (br_f (by decide) (br_f (by decide) (br_f (by decide) (br_f (by decide) (br_f (by decide) (br_f (by decide) (br_f (by decide) (br_f (by decide) (br_t rfl ?_)))))))))⟩
      rw [rp _ _ _ _ (by omega), e61, nI_clamp (by omega), rp _ _ _ _ (by omega), hW.1.2.2.1, ← hwy]
      exact ⟨vp_in_nI (by omega) (by decide), h⟩
    · refine ⟨Int32.toInt64 (nI (w (26 + 2 * i))), by rw [wide, nI_toInt (by omega)]; rfl, fun f m Q h => e_c12_qPartOf (br_f (by decide) (br_f (by decide) (br_f (by decide) (br_f (by decide) (br_f (by decide) (br_f (by decide) (br_f (by decide) (br_f (by decide) (br_f (by decide) (e_c12_timesOf ?_))))))))))⟩
      rw [rp _ _ _ _ (by omega), e61, vTim, nI_clamp (by omega), rp _ _ _ _ (by omega), N _ (by omega)]
      exact ⟨vp_in_nI (by omega) (by decide), h⟩
  · have fin5 : ∀ f m, rI (rP s f m) 193 5 = nI fin := fun f m => by rw [rp _ _ _ _ (by omega)]; exact C.2.2.2.1
    by_cases hs : 1 ≤ x.toInt ∧ x.toInt ≤ fin
    · obtain ⟨v, hv⟩ : ∃ v : Nat, x.toInt = (v : Int) := ⟨x.toInt.toNat, by omega⟩
      have hx32 : Int64.toInt32 x = nI v := by
        have : x = lN v := (fa_eq64 _ _).2 (by rw [hv, lN_toInt (by omega)])
        rw [this]
        exact lN_i v
      have bv := hw v
      have hF31 : Fi i < 2 ^ 31 := Nat.lt_of_lt_of_le a4 (Nat.pow_le_pow_right (by decide) (by omega))
      have sz : ∀ f m (P : Int32 → sT → Prop), P 1 (rP s f m) → c12_isSize x P (rP s f m) := fun f m P hP => by
        refine e_c12_isSize (e_c12_finest (isIn_t ?_ ⟨one01, hP⟩))
        rw [fin5, wide, L1, nI_toInt (by omega)]
        exact hs
      rcases hc with rfl | rfl
      · refine ⟨Int32.toInt64 (nI (w v)), ?_, fun f m Q h => e_c12_qOf (br_t rfl (sz f m _ (yes1 ?_)))⟩
        · rw [wide, nI_toInt (by omega), hv]
          unfold foQ
          rw [if_pos (by omega), if_pos rfl, Int.toNat_natCast]
        · rw [hx32, nI_clamp (by omega), rp _ _ _ _ (by omega), N _ (by omega)]
          exact ⟨vp_in_nI (by omega) (by decide), h⟩
      · refine ⟨(Int32.toInt64 (nI (Fi i) >>> ((nI v - (1 : Int32)) &&& 31))) &&& (1 : Int64), ?_, fun f m Q h => e_c12_qOf (br_f (by decide) (sz f m _ (yes1 ?_)))⟩
        · have e1 : (nI v - (1 : Int32)) = nI (v - 1) := by rw [show (1 : Int32) = nI 1 from rfl, pk_sub (by omega)]
          have hd : Fi i / 2 ^ (v - 1) < 2 ^ 31 := Nat.lt_of_le_of_lt (Nat.div_le_self _ _) hF31
          rw [e1, pk_shrN hF31 (nI (v - 1) &&& 31) (v - 1) (sx31 _ (by omega))]
          have e2 : Int32.toInt64 (nI (Fi i / 2 ^ (v - 1))) = lN (Fi i / 2 ^ (v - 1)) := nI_l (by omega)
          have hm : Fi i / 2 ^ (v - 1) % 2 < 2 := Nat.mod_lt _ (by decide)
          rw [e2, show (1 : Int64) = lN 1 from rfl, fb_andL, Nat.and_one_is_mod, lN_toInt (by omega), hv]
          unfold foQ
          rw [if_pos (by omega), if_neg (by decide), Int.toNat_natCast, Nat.testBit_eq_decide_div_mod_eq]
          by_cases q : Fi i / 2 ^ (v - 1) % 2 = 1
          · rw [decide_eq_true q, if_pos rfl, q]; rfl
          · rw [decide_eq_false q, if_neg (by decide), show Fi i / 2 ^ (v - 1) % 2 = 0 by omega]; rfl
        · rw [nI_clamp (by omega), rp _ _ _ _ (by omega), eF, hx32]
          exact ⟨vp_in_nI (by omega) (by decide), h⟩
    · have sz : ∀ f m (P : Int32 → sT → Prop), P 0 (rP s f m) → c12_isSize x P (rP s f m) := fun f m P hP => by
        refine e_c12_isSize (e_c12_finest (isIn_f ?_ ⟨nil01, hP⟩))
        rw [fin5, wide, L1, nI_toInt (by omega)]
        exact hs
      have e0 : foQ w Fi i c x.toInt = 0 := by
        rcases Int.lt_or_le x.toInt 1 with y | y
        · unfold foQ
          rw [if_neg (by omega)]
        · exact foQ_hi hq hi (by omega)
      refine ⟨0, by rw [e0]; rfl, fun f m Q h => ?_⟩
      rcases hc with rfl | rfl
      · exact e_c12_qOf (br_t rfl (sz f m _ (no0 h)))
      · exact e_c12_qOf (br_f (by decide) (sz f m _ (no0 h)))
