def fiF (x : Nat) (k : Int32) : List Nat → Nat → Int32
  | [], n => if k = (-1 : Int32) then nI n else -1
  | y :: r, n => if sB x (bitS y) = true then (if nI n = k then nI y else fiF x k r (n + 1)) else fiF x k r n
theorem and_eqB {x y : Nat} (hx : x < 2 ^ 24) (hy : y < 2 ^ 24) : (nI y &&& nI x) = nI x ↔ sB x (bitS y) = true := by
  have hle : y &&& x ≤ x := Nat.and_le_right
  rw [fa_and, nI_eq (by omega) (by omega), sB_iff]
  constructor
  · intro h i hi hb
    have h2 : (y &&& x).testBit i = x.testBit i := by rw [h]
    rw [Nat.testBit_and, hb, Bool.and_true] at h2
    exact h2
  · intro h
    apply Nat.eq_of_testBit_eq
    intro i
    rw [Nat.testBit_and]
    cases hb : x.testBit i with
    | false => simp
    | true =>
      have hi : i < 24 := by
        rcases Nat.lt_or_ge i 24 with q | q
        · exact q
        · rw [t_lt hx q] at hb; cases hb
      have : y.testBit i = true := h i hi hb
      rw [this]; rfl
theorem w_fiC {l : List Nat} {x : Nat} {k : Int32} {Q : Int32 → sT → Prop} {s : sT} (A : FLc s l) (h32 : l.length ≤ 32) (hl : ∀ y ∈ l, 0 < y ∧ y < 2 ^ 24) (hx : x < 2 ^ 24) : ∀ (r : List Nat) (i n : Nat), l.drop i = r → i ≤ l.length → n ≤ i → Q (fiF x k r n) s → c11_fills_47 (nI x) k (nI l.length) (nI n) (nI i) Q s
  | [], i, n, e, hi, hn, h => by
    have := drop_nil e hi
    unfold fiF at h
    refine e_c11_fills_47 (br_f (nI_nlt (by omega) (by omega)) (br_c (fun q => ?_) (fun q => ?_)))
    · rw [if_pos q] at h; exact h
    · rw [if_neg q] at h; exact h
  | y :: r, i, n, e, hi, hn, h => by
    obtain ⟨g1, g2, g3⟩ := drop_ix e
    have hy := hl y (g2 ▸ List.getElem_mem g1)
    have e37 : rI s 37 i = nI y := by rw [A.2 i g1, g2]
    unfold fiF at h
    refine e_c11_fills_47 (br_t (nI_lt g1 (by omega)) ⟨vp_in_nI (by omega) (by decide), ?_⟩)
    rw [nI_clamp (by omega), e37, and_eqB hx hy.2, nI_1, nI_1]
    refine br_c (fun q => br_c (fun q2 => ⟨vp_in_nI (by omega) (by decide), ?_⟩) (fun q2 => ?_)) (fun q => ?_)
    · rw [if_pos q, if_pos q2] at h; exact h
    · rw [if_pos q, if_neg q2] at h
      exact w_fiC A h32 hl hx r (i + 1) (n + 1) g3 g1 (by omega) h
    · rw [if_neg q] at h
      exact w_fiC A h32 hl hx r (i + 1) n g3 g1 (by omega) h
theorem w_fiR {l : List Nat} {x : Nat} {k : Int32} {Q : Int32 → sT → Prop} {s : sT} (A : FLr s l) (h32 : l.length ≤ 32) (hl : ∀ y ∈ l, 0 < y ∧ y < 2 ^ 24) (hx : x < 2 ^ 24) : ∀ (r : List Nat) (i n : Nat), l.drop i = r → i ≤ l.length → n ≤ i → Q (fiF x k r n) s → c12_fills_44 (nI x) k (nI n) (nI i) Q s
  | [], i, n, e, hi, hn, h => by
    have := drop_nil e hi
    unfold fiF at h
    refine e_c12_fills_44 (br_f (by rw [A.1]; exact nI_nlt (by omega) (by omega)) (br_c (fun q => ?_) (fun q => ?_)))
    · rw [if_pos q] at h; exact h
    · rw [if_neg q] at h; exact h
  | y :: r, i, n, e, hi, hn, h => by
    obtain ⟨g1, g2, g3⟩ := drop_ix e
    have hy := hl y (g2 ▸ List.getElem_mem g1)
    have e37 : rI s 201 i = nI y := by rw [A.2 i g1, g2]
    unfold fiF at h
    refine e_c12_fills_44 (br_t (by rw [A.1]; exact nI_lt g1 (by omega)) ⟨vp_in_nI (by omega) (by decide), ?_⟩)
    rw [nI_clamp (by omega), e37, sub_B hx, nI_1, nI_1]
    refine br_c (fun q => br_c (fun q2 => ⟨vp_in_nI (by omega) (by decide), ?_⟩) (fun q2 => ?_)) (fun q => ?_)
    · rw [if_pos q, if_pos q2] at h; exact h
    · rw [if_pos q, if_neg q2] at h
      exact w_fiR A h32 hl hx r (i + 1) (n + 1) g3 g1 (by omega) h
    · rw [if_neg q] at h
      exact w_fiR A h32 hl hx r (i + 1) n g3 g1 (by omega) h
theorem fiF_neg {x : Nat} {k : Int32} (hk : k.toInt < -1) : ∀ (l : List Nat) (n : Nat), n + l.length < 2147483648 → fiF x k l n = -1
  | [], n, _ => by
    unfold fiF
    rw [if_neg (fun q => by
      rw [q] at hk
      exact absurd hk (by decide))]
  | y :: r, n, h => by
    have h' : n + (r.length + 1) < 2147483648 := h
    unfold fiF
    have h1 := fiF_neg (x := x) hk r (n + 1) (by omega)
    have h2 := fiF_neg (x := x) hk r n (by omega)
    split
    · rw [if_neg (fun q => by
        rw [← q, nI_toInt (by omega)] at hk
        omega)]
      exact h1
    · exact h2
theorem op_fills {s : sT} (v x y k : Int32) (I : Inv s) : two Inv (c11_fills v x y k) (c12_fills v x y k) s := by
  obtain ⟨fin, most, ppl, bk, mi, L, lc, cc, w, κ, I⟩ := I
  obtain ⟨⟨c1, -⟩, io, -, -, -, ik⟩ := id I
  obtain ⟨-, m1, m6, -, eM, -, -, OC, OR, -⟩ := id io
  have h24 := OC.1
  have II := IA_Inv I
  have hFC := OC.2.2.2.1
  have hFR := OR.2.2.2.1
  have Lm1 : ((-1 : Int32)).toInt = -1 := rfl
  by_cases hn : okS fin v x
  · obtain ⟨hf, a, b, a1, a2, b1, b2, rfl, rfl⟩ := hn
    obtain ⟨-, ht, h6⟩ := IO_told io (by omega)
    have wl := wrs_len (U := un a b) h24 m6
    -- with a set that can be
    have go : ∀ X, X < 2 ^ 24 → ∀ (Cs : sT → Prop), (∀ (s1 : sT), Fr XFF s s1 → ∀ r : Int32, r = fiF X k (wrs fin most (un a b)) 0 → (c12_partsOf (nI a) (nI b) (fun y5 u6 => c12_laysWritings y5 (fun u7 => c12_fills_44 (nI X) k (0 : Int32) (0 : Int32) (fun r2 s2 => r = r2 ∧ Inv s2) u7) u6) s1) ∧ IK s1 fin most → Cs s1) → True := fun _ _ _ _ => trivial
    have goR : ∀ X, X < 2 ^ 24 → ∀ s1, Fr XFF s s1 → IK s1 fin most → c12_partsOf (nI a) (nI b) (fun y5 u6 => c12_laysWritings y5 (fun u7 => c12_fills_44 (nI X) k (0 : Int32) (0 : Int32) (fun r2 s2 => fiF X k (wrs fin most (un a b)) 0 = r2 ∧ Inv s2) u7) u6) s1 := fun X hX s1 F1 K1 => by
      have I1 := IA_k I F1 K1
      exact w_partsOf a2 b1 b2 (w_laysU h24 m1 m6 (by rw [F1.1 _ _ rfl]; exact hFR) (by rw [F1.1 _ _ rfl]; exact ht) (by rw [F1.1 _ _ rfl]; exact h6) (un_lt a2) (fun s2 F2 A2 => w_fiR A2 wl (mem24 h24) hX (wrs fin most (un a b)) 0 0 rfl (Nat.zero_le _) (Nat.le_refl _) ⟨rfl, IA_Inv (IA_L I1 F2)⟩))
    have neg : ∀ X, k < (-1 : Int32) → fiF X k (wrs fin most (un a b)) 0 = -1 := fun X q => by
      rw [fa_lt, Lm1] at q
      exact fiF_neg q _ _ (by omega)
    refine e_c11_fills (shC_t hFC h24 hf a1 a2 b1 b2 (yes1 (br_c (fun q => ?_) (fun q => ?_))))
    · refine w_units a2 b1 b2 (w_findU h24 m1 m6 hFC eM (prC_of c1) ik (un_lt a2) (fun s1 F1 K1 A1 => ?_))
      subst q
      refine w_fiC (x := 0) A1 wl (mem24 h24) (by decide) (wrs fin most (un a b)) 0 0 rfl (Nat.zero_le _) (Nat.le_refl _) ?_
      refine e_c12_fills (shR_t (by rw [F1.1 _ _ rfl]; exact ht) a1 a2 b1 b2 (yes1 (br_t rfl (br_c (fun q2 => ⟨neg 0 q2, IA_Inv (IA_k I F1 K1)⟩) (fun q2 => goR 0 (by decide) s1 F1 K1)))))
    · by_cases hs : ∃ X, 0 < X ∧ X < 2 ^ fin ∧ y = nI X
      · obtain ⟨X, X1, X2, rfl⟩ := hs
        have X24 : X < 2 ^ 24 := Nat.lt_of_lt_of_le X2 (Nat.pow_le_pow_right (by decide) h24)
        refine setC_t hFC h24 X1 X2 (yes1 (w_units a2 b1 b2 (w_findU h24 m1 m6 hFC eM (prC_of c1) ik (un_lt a2) (fun s1 F1 K1 A1 => ?_))))
        refine w_fiC (x := X) A1 wl (mem24 h24) X24 (wrs fin most (un a b)) 0 0 rfl (Nat.zero_le _) (Nat.le_refl _) ?_
        refine e_c12_fills (shR_t (by rw [F1.1 _ _ rfl]; exact ht) a1 a2 b1 b2 (yes1 (br_f q (setR_t (by rw [F1.1 _ _ rfl]; exact hFR) h24 X1 X2 (yes1 (br_c (fun q2 => ⟨neg X q2, IA_Inv (IA_k I F1 K1)⟩) (fun q2 => goR X X24 s1 F1 K1)))))))
      · exact setC_f hFC h24 hs (no0 (e_c12_fills (shR_t ht a1 a2 b1 b2 (yes1 (br_f q (setR_f hFR h24 hs (no0 ⟨rfl, II⟩)))))))
  · exact e_c11_fills (shC_f hFC h24 hn (no0 (e_c12_fills (shR_f (fun z => (IO_not io z).2.2) hn (no0 ⟨rfl, II⟩)))))
-- the greedy writing
def gdF (fin most : Nat) : Nat → Nat → Nat → Nat → Nat
  | 0, _, rest, set => if rest = 0 then set else 0
  | m + 1, room, rest, set =>
    if 0 < rest ∧ 0 < room then (if prt (fin - m) ≤ rest then gdF fin most m (room - 1) (rest - prt (fin - m)) (set ||| 2 ^ (fin - m - 1)) else gdF fin most m room rest set)
    else if rest = 0 then set else 0
theorem w_gdC {fin most : Nat} {Q : Int32 → sT → Prop} {s : sT} (hf : fin ≤ 24) (hF : rI s 21 0 = nI fin) (hP : prC s) : ∀ m room rest set, m ≤ fin → room ≤ 6 → rest < 2 ^ 45 → Q (nI (gdF fin most m room rest set)) s → c1_greedySet_17 (lN rest) (nI set) (nI room) (nI (fin + 1 - m)) Q s
  | 0, room, rest, set, hm, hr, h45, h => by
    unfold gdF at h
    refine e_c1_greedySet_17 (br_t (by rw [hF]; exact nI_lt (by omega) (by omega)) ?_)
    rw [show (0 : Int64) = lN 0 from rfl, lN_eqB (by omega) (by decide)]
    refine br_c (fun q => ?_) (fun q => ?_)
    · rw [if_pos q] at h; exact h
    · rw [if_neg q] at h; exact h
  | m + 1, room, rest, set, hm, hr, h45, h => by
    have hp := prt_le (fin - m)
    unfold gdF at h
    have fin_ : ¬ (0 < rest ∧ 0 < room) → ((lN rest = (0 : Int64) → Q (nI set) s) ∧ (¬ lN rest = (0 : Int64) → Q (0 : Int32) s)) := fun q => by
      rw [if_neg q] at h
      rw [show (0 : Int64) = lN 0 from rfl, lN_eqB (by omega) (by decide)]
      refine br_c (fun q => ?_) (fun q => ?_)
      · rw [if_pos q] at h; exact h
      · rw [if_neg q] at h; exact h
    refine e_c1_greedySet_17 (br_f (by rw [hF]; exact nI_nlt (by omega) (by omega)) ?_)
    by_cases q1 : 0 < rest
    · refine br_t ((lN_ltB (a := 0) (by decide) (by omega)).2 q1) ?_
      by_cases q2 : 0 < room
      · rw [if_pos ⟨q1, q2⟩] at h
        refine br_t (nI_lt (a := 0) q2 (by omega)) ⟨vp_in_nI (by omega) (by decide), ?_⟩
        rw [show fin + 1 - (m + 1) = fin - m by omega, nI_clamp (by omega), hP _ (by omega) (by omega), lN_ltB (by omega) (by omega), nI_1, show fin - m + 1 = fin + 1 - m by omega]
        refine br_c (fun q3 => ?_) (fun q3 => ⟨vp_in_nI (by omega) (by decide), fun y hy z hz => ?_⟩)
        · rw [if_neg (by omega)] at h
          exact w_gdC hf hF hP m room rest set (by omega) hr h45 h
        · rw [if_pos (by omega)] at h
          rw [lN_sub (by omega)] at hy
          rw [show (1 : Int32) = nI 1 from rfl, pk_sub (by omega), show nI 1 = (1 : Int32) from rfl, one_shl (by omega), nI_or] at hz
          rw [hy, hz, nI_dec q2]
          exact w_gdC hf hF hP m (room - 1) _ _ (by omega) (by omega) (by omega) h
      · exact br_f (nI_nlt (a := 0) (b := room) (by omega) (by decide) |> fun z => by
          have e : room = 0 := by omega
          rw [e]; decide) (fin_ (fun z => q2 z.2))
    · exact br_f (fun z => q1 ((lN_ltB (a := 0) (by decide) (by omega)).1 z)) (fin_ (fun z => q1 z.1))
