-- sets of sizes, the first writing that is good
def sB (x : Nat) (g : Nat → Bool) : Bool := (List.range 24).all fun i => !x.testBit i || g (i + 1)
theorem sB_iff {x : Nat} {g : Nat → Bool} : sB x g = true ↔ ∀ i, i < 24 → x.testBit i = true → g (i + 1) = true := by
  unfold sB
  rw [List.all_eq_true]
  constructor
  · intro h i hi hx
    have := h i (List.mem_range.2 hi)
    rw [hx] at this
    simpa using this
  · intro h i hi
    cases hx : x.testBit i with
    | false => rfl
    | true => simp [h i (List.mem_range.1 hi) hx]
theorem sB_cong {x : Nat} {g g' : Nat → Bool} (h : ∀ n, 1 ≤ n → n ≤ 24 → x.testBit (n - 1) = true → g n = g' n) : sB x g = sB x g' := by
  have e : sB x g = true ↔ sB x g' = true := by
    rw [sB_iff, sB_iff]
    constructor
    · intro q i hi hx
      rw [← h (i + 1) (by omega) (by omega) hx]; exact q i hi hx
    · intro q i hi hx
      rw [h (i + 1) (by omega) (by omega) hx]; exact q i hi hx
  cases h1 : sB x g <;> cases h2 : sB x g' <;> simp_all
def chs : List Nat → (Nat → Bool) → Nat
  | [], _ => 0
  | x :: r, g => if sB x g then x else chs r g
def orA (S : Nat → Bool) : List Nat → Nat → Nat
  | [], a => a
  | x :: r, a => orA S r (if sB x S then a ||| x else a)
def bitS (S : Nat) (n : Nat) : Bool := S.testBit (n - 1)
theorem sub_B {a b : Nat} (ha : a < 2 ^ 24) : (nI a &&& (nI b ^^^ (-1 : Int32))) = 0 ↔ sB a (bitS b) = true := by
  rw [sub_0 (by omega), sB_iff]
  constructor
  · intro h i hi hx
    exact h i hx
  · intro h i hx
    rcases Nat.lt_or_ge i 24 with q | q
    · exact h i q hx
    · rw [t_lt ha q] at hx; cases hx
theorem orA_lt {S : Nat → Bool} : ∀ {r : List Nat} {a : Nat}, (∀ x ∈ r, x < 2 ^ 24) → a < 2 ^ 24 → orA S r a < 2 ^ 24
  | [], a, _, h => h
  | x :: r, a, hr, h => by
    unfold orA
    refine orA_lt (fun y hy => hr y (List.mem_cons_of_mem _ hy)) ?_
    split
    · exact Nat.or_lt_two_pow h (hr x List.mem_cons_self)
    · exact h
theorem orA_t {S : Nat → Bool} {i : Nat} : ∀ {r : List Nat} {a : Nat}, (orA S r a).testBit i = true ↔ a.testBit i = true ∨ ∃ x, x ∈ r ∧ sB x S = true ∧ x.testBit i = true
  | [], a => by simp [orA]
  | x :: r, a => by
    unfold orA
    rw [orA_t]
    cases hs : sB x S with
    | true => 
      simp only [if_true, Nat.testBit_or, Bool.or_eq_true, List.mem_cons]
      constructor
      · rintro ((h | h) | ⟨y, h1, h2⟩)
        · exact Or.inl h
        · exact Or.inr ⟨x, Or.inl rfl, hs, h⟩
        · exact Or.inr ⟨y, Or.inr h1, h2⟩
      · rintro (h | ⟨y, rfl | h1, h2⟩)
        · exact Or.inl (Or.inl h)
        · exact Or.inl (Or.inr h2.2)
        · exact Or.inr ⟨y, h1, h2⟩
    | false =>
      simp only [Bool.false_eq_true, if_false, List.mem_cons]
      constructor
      · rintro (h | ⟨y, h1, h2⟩)
        · exact Or.inl h
        · exact Or.inr ⟨y, Or.inr h1, h2⟩
      · rintro (h | ⟨y, rfl | h1, h2⟩)
        · exact Or.inl h
        · rw [hs] at h2; cases h2.1
        · exact Or.inr ⟨y, h1, h2⟩
-- the class: which sizes are in stock
theorem w_inStock_4 {t : Nat} {w : Nat → Nat} {Q : Int32 → sT → Prop} {s : sT} (hs : ∀ n, 1 ≤ n → n < 25 → rI s (t + 1) n = nI (w n)) (hw : ∀ n, w n < 2 ^ 31) (h : Q (nI (mB (fun i => decide (0 < w (i + 1))) 24)) s) : ∀ m k, k + m = 24 → c9_inStock_4 t (nI (mB (fun i => decide (0 < w (i + 1))) k)) (nI (k + 1)) Q s
  | 0, k, e => by
    have e : k = 24 := e
    subst e
    exact e_c9_inStock_4 (br_t (by decide) h)
  | m + 1, k, e => by
    have hN := w_inStock_4 hs hw h m (k + 1) (by omega)
    refine e_c9_inStock_4 (br_f (nI_nlt (a := 24) (by omega) (by omega)) ⟨vp_in_nI (by omega) (by decide), ?_⟩)
    rw [nI_clamp (by omega), hs (k + 1) (by omega) (by omega), nI_1, nI_pred, one_shl (by omega), nI_or]
    unfold mB at hN
    refine br_c (fun q x hx => ?_) (fun q => ?_)
    · subst hx
      have q' : 0 < w (k + 1) := by
        rw [show (0 : Int32) = nI 0 from rfl, nI_ltI (by decide) (hw _)] at q
        exact q
      simp only [q', decide_true, if_true] at hN
      exact hN
    · have q' : ¬ 0 < w (k + 1) := fun z => q (nI_lt (a := 0) z (hw _))
      simp only [q', decide_false, Bool.false_eq_true, if_false, Nat.or_zero] at hN
      exact hN
theorem w_inStock {t : Nat} {w : Nat → Nat} {Q : Int32 → sT → Prop} {s : sT} (hs : ∀ n, 1 ≤ n → n < 25 → rI s (t + 1) n = nI (w n)) (hw : ∀ n, w n < 2 ^ 31) (h : Q (nI (mB (fun i => decide (0 < w (i + 1))) 24)) s) : c9_inStock t Q s :=
  e_c9_inStock (w_inStock_4 hs hw h 24 0 rfl)
/-- the writings of a person's due as the class holds them -/
def wayC (s : sT) (p : Nat) (L : List Nat) : Prop := p < 6 ∧ L.length ≤ 32 ∧ rI s 33 p = nI L.length ∧ (∀ k (h : k < L.length), rI s 32 (32 * p + k) = nI L[k]) ∧ ∀ x ∈ L, 0 < x ∧ x < 2 ^ 24
theorem w_wayOf {p k : Nat} {L : List Nat} {Q : Int32 → sT → Prop} {s : sT} (W : wayC s p L) (hk : k < L.length) (h : Q (nI L[k]) s) : c7_wayOf (nI p) (nI k) Q s := by
  obtain ⟨h1, h2, h3, h4, h5⟩ := W
  have e : nI p * (32 : Int32) + nI k = nI (32 * p + k) := by
    rw [show (32 : Int32) = nI 32 from rfl, pk_mul, nI_add, Nat.mul_comm]
  refine e_c7_wayOf ?_
  rw [e, nI_clamp (by omega), h4 k hk]
  exact ⟨vp_in_nI (by omega) (by decide), h⟩
theorem drop_ix {L : List Nat} {k : Nat} {x : Nat} {r : List Nat} (e : L.drop k = x :: r) : ∃ h : k < L.length, L[k] = x ∧ L.drop (k + 1) = r := by
  have h : k < L.length := by
    rcases Nat.lt_or_ge k L.length with q | q
    · exact q
    · rw [List.drop_eq_nil_of_le q] at e; cases e
  rw [List.drop_eq_getElem_cons h] at e
  cases e
  exact ⟨h, rfl, rfl⟩
theorem drop_nil {L : List Nat} {k : Nat} (e : L.drop k = []) (h : k ≤ L.length) : k = L.length := by
  have := congrArg List.length e
  simp at this
  omega
theorem w_sizes_5 {p S : Nat} {L : List Nat} {Q : Int32 → sT → Prop} {s : sT} (W : wayC s p L) : ∀ (r : List Nat) (k a : Nat), L.drop k = r → k ≤ L.length → Q (nI (orA (bitS S) r a)) s → c7_sizesOfWaysWithin_5 (nI p) (nI S) (nI a) (nI k) Q s
  | [], k, a, e, hk, h => by
    have := drop_nil e hk
    have w2 := W.2.1
    refine e_c7_sizesOfWaysWithin_5 ⟨vp_in_nI W.1 (by decide), br_f ?_ h⟩
    rw [nI_clamp (by have := W.1; omega), W.2.2.1]
    exact nI_nlt (by omega) (by omega)
  | x :: r, k, a, e, hk, h => by
    obtain ⟨h1, h2, h3⟩ := drop_ix e
    have w2 := W.2.1
    refine e_c7_sizesOfWaysWithin_5 ⟨vp_in_nI W.1 (by decide), br_t ?_ (w_wayOf W h1 ?_)⟩
    · rw [nI_clamp (by have := W.1; omega), W.2.2.1]
      exact nI_lt h1 (by omega)
    · rw [h2, sub_B (W.2.2.2.2 x (h2 ▸ List.getElem_mem h1)).2, nI_1, nI_or]
      unfold orA at h
      refine br_c (fun q y hy => ?_) (fun q => ?_)
      · subst hy
        rw [if_pos q] at h
        exact w_sizes_5 W r (k + 1) _ h3 h1 h
      · rw [if_neg q] at h
        exact w_sizes_5 W r (k + 1) _ h3 h1 h
theorem w_sizes {p S : Nat} {L : List Nat} {Q : Int32 → sT → Prop} {s : sT} (W : wayC s p L) (h : Q (nI (orA (bitS S) L 0)) s) : c7_sizesOfWaysWithin (nI p) (nI S) Q s :=
  e_c7_sizesOfWaysWithin (w_sizes_5 W L 0 0 rfl (Nat.zero_le _) h)
theorem w_first_2 {p S : Nat} {L : List Nat} {Q : Int32 → sT → Prop} {s : sT} (W : wayC s p L) : ∀ (r : List Nat) (k : Nat), L.drop k = r → k ≤ L.length → Q (nI (chs r (bitS S))) s → c7_firstWayWithin_2 (nI p) (nI S) (nI k) Q s
  | [], k, e, hk, h => by
    have := drop_nil e hk
    have w2 := W.2.1
    refine e_c7_firstWayWithin_2 ⟨vp_in_nI W.1 (by decide), br_f ?_ h⟩
    rw [nI_clamp (by have := W.1; omega), W.2.2.1]
    exact nI_nlt (by omega) (by omega)
  | x :: r, k, e, hk, h => by
    obtain ⟨h1, h2, h3⟩ := drop_ix e
    have w2 := W.2.1
    refine e_c7_firstWayWithin_2 ⟨vp_in_nI W.1 (by decide), br_t ?_ (w_wayOf W h1 ?_)⟩
    · rw [nI_clamp (by have := W.1; omega), W.2.2.1]
      exact nI_lt h1 (by omega)
    · rw [h2, sub_B (W.2.2.2.2 x (h2 ▸ List.getElem_mem h1)).2, nI_1]
      unfold chs at h
      refine br_c (fun q => ?_) (fun q => ?_)
      · rw [if_pos q] at h
        exact h
      · rw [if_neg q] at h
        exact w_first_2 W r (k + 1) h3 h1 h
theorem w_first {p S : Nat} {L : List Nat} {Q : Int32 → sT → Prop} {s : sT} (W : wayC s p L) (h : Q (nI (chs L (bitS S))) s) : c7_firstWayWithin (nI p) (nI S) Q s :=
  e_c7_firstWayWithin (w_first_2 W L 0 rfl (Nat.zero_le _) h)
-- likes
/-- the facts of a piece: its size, how many there are, the day, how long the person hungers -/
def ffK (w : Nat → Nat) (p n : Nat) (k : Nat) : Int := if k = 0 then n else if k = 1 then w n else if k = 2 then w 0 else if k = 4 then w (25 + 2 * p) else 0
def fo0 (_ : Nat) (_ : Int) : Int := 0
def alK (c : Nat) : Bool := c == 40 || (c == 41 || (c == 42 || c == 44))
def lkB (lc : List Nat) (w : Nat → Nat) (p n : Nat) : Bool := decide (ev (ffK w p n) fo0 lc [] = [1])
/-- numbers that can be -/
def wB (w : Nat → Nat) : Prop := (∀ n, w n ≤ 100000)
/-- the likes as the class holds them -/
def likC (s : sT) (lc : List Nat) : Prop := lc.length ≤ 1600 ∧ rI s 29 2 = nI lc.length ∧ (∀ k (h : k < lc.length), rI s 30 k = nI (trc lc[k])) ∧ tyL alK lc [] = some [true]
theorem alK_k {k : Nat} (h : alK (40 + k) = true) : k = 0 ∨ k = 1 ∨ k = 2 ∨ k = 4 := by
  unfold alK at h
  simp only [Bool.or_eq_true, beq_iff_eq] at h
  omega
theorem ffK_rg {w : Nat → Nat} {p n k : Nat} (hw : wB w) (hn : n ≤ 24) : rg (ffK w p n k) := by
  unfold ffK rg
  have h1 := hw n
  have h2 := hw 0
  have h3 := hw (25 + 2 * p)
  split
  · omega
  split
  · omega
  split
  · omega
  split <;> omega
/-- the cells that a choice writes -/
def Xc (a _ : Nat) : Bool := a == 146 || a == 31
theorem w_lik {p n : Nat} {lc : List Nat} {w : Nat → Nat} {Q : Int32 → sT → Prop} {s : sT} (C : likC s lc) (hw : wB w) (hn : n ≤ 24) (e0 : rI s 146 0 = nI n) (e1 : rI s 146 1 = nI (w n)) (e2 : rI s 146 2 = nI (w 0)) (e4 : rI s 146 4 = nI (w (25 + 2 * p))) (h : ∀ r g, (r = 0 ↔ lkB lc w p n = false) → Q r (wC s 31 g)) : c2_reckon 29 146 Q s := by
  obtain ⟨h1, h2, h3, h4⟩ := C
  refine w_reckon (al := alK) (ff := ffK w p n) (fo := fo0) (b := true) (by decide) ⟨rfl, fun k hk ha => ⟨?_, ffK_rg hw hn⟩, fun q => absurd q (by decide), fun q => absurd q (by decide), fun c n _ => rfl⟩ h2 h1 h3 h4 (fun x r g hx ht hr => h r g ?_)
  · have b1 := hw n
    have b2 := hw 0
    have b3 := hw (25 + 2 * p)
    rcases alK_k ha with rfl | rfl | rfl | rfl
    · rw [e0, nI_toInt (by omega)]; rfl
    · rw [e1, nI_toInt (by omega)]; rfl
    · rw [e2, nI_toInt (by omega)]; rfl
    · rw [e4, nI_toInt (by omega)]; rfl
  · have hx01 : x = 0 ∨ x = 1 := ht.1
    unfold lkB
    rw [hx, fa_eq, hr]
    rcases hx01 with rfl | rfl <;> decide
