theorem lN_ltB {a b : Nat} (ha : a < 9223372036854775808) (hb : b < 9223372036854775808) : lN a < lN b ↔ a < b := by
  rw [fa_lt64, lN_t ha, lN_t hb]
  omega
theorem lN_eqB {a b : Nat} (ha : a < 9223372036854775808) (hb : b < 9223372036854775808) : lN a = lN b ↔ a = b := by
  rw [fa_eq64, lN_t ha, lN_t hb]
  omega
/-- the writings found so far, in the class -/
def FLc (s : sT) (l : List Nat) : Prop := rI s 35 3 = nI l.length ∧ ∀ k (h : k < l.length), rI s 37 k = nI l[k]
def XF (a j : Nat) : Bool := Nat.beq a 37 || (Nat.beq a 35 && Nat.beq j 3)
def prC (s : sT) : Prop := ∀ n, 1 ≤ n → n ≤ 24 → rJ s 36 n = lN (prt n)
theorem prC_fr {X : Nat → Nat → Bool} {s t : sT} (h : Fr X s t) (hx : ∀ j, X 36 j = false) (P : prC s) : prC t := fun n a b => by rw [h.2.1 _ _ (hx n)]; exact P n a b
theorem get_snoc {l : List Nat} {x k : Nat} (h : k < (l ++ [x]).length) : (l ++ [x])[k] = if q : k < l.length then l[k] else x := by
  rw [List.getElem_append]
  split
  · rfl
  · simp
theorem w_keepSet {l : List Nat} {x : Nat} {Q : sT → Prop} {s : sT} (A : FLc s l) (h32 : l.length < 32) (h : ∀ s', Fr XF s s' → FLc s' (l ++ [x]) → Q s') : c1_keepSet (nI x) Q s := by
  refine e_c1_keepSet (br_t (by rw [A.1]; exact nI_lt (b := 32) h32 (by decide)) ⟨by rw [A.1]; exact vp_in_nI h32 (by decide), fun u hu v hv => ?_⟩)
  rw [A.1, nI_clamp (by omega)] at hu
  have e : rI u 35 3 = nI l.length := by rw [hu, rI_wI, if_neg (by omega)]; exact A.1
  rw [e, nI_1] at hv
  refine h v (by rw [hv]; exact fr_wI (by rw [hu]; exact fr_wI fr_rf rfl) rfl) ⟨by rw [hv, rI_wI, if_pos ⟨rfl, rfl⟩]; simp, fun k hk => ?_⟩
  rw [get_snoc hk, hv, rI_wI, if_neg (by omega), hu, rI_wI]
  simp only [List.length_append, List.length_cons, List.length_nil] at hk
  by_cases z : k < l.length
  · rw [if_neg (by omega), dif_pos z]
    exact A.2 k z
  · rw [if_pos ⟨rfl, by omega⟩, dif_neg z]
theorem or_lt {set n fin k : Nat} (h : set < 2 ^ (fin - (k + 1))) (hk : k + 1 ≤ fin) : set ||| 2 ^ (fin - k - 1) < 2 ^ (fin - k) := by
  refine Nat.or_lt_two_pow (Nat.lt_trans h (Nat.pow_lt_pow_right (by decide) (by omega))) (Nat.pow_lt_pow_right (by decide) (by omega))
theorem len_app {a b : List Nat} {n : Nat} (h : (a ++ b).length ≤ n) : a.length ≤ n := by
  rw [List.length_append] at h
  omega
theorem w_srch {fin d : Nat} (hf : fin ≤ 24) (hS : ∀ k room rest set l s (Q : Int32 → sT → Prop), k ≤ fin → room ≤ d → 1 ≤ room → room ≤ 6 → 0 < rest → rest < 2 ^ 45 → set < 2 ^ (fin - k) → rI s 21 0 = nI fin → prC s → FLc s l → (l ++ wsL fin k room rest set).length ≤ 32 → (∀ s', Fr XF s s' → FLc s' (l ++ wsL fin k room rest set) → Q 0 s') → g1 d 0 (lN rest) (nI (fin + 1 - k)) (nI room) (nI set) Q s) : ∀ k room rest set l s (Q : sT → Prop), k ≤ fin → room ≤ d + 1 → 1 ≤ room → room ≤ 6 → 0 < rest → rest < 2 ^ 45 → set < 2 ^ (fin - k) → rI s 21 0 = nI fin → prC s → FLc s l → (l ++ wsL fin k room rest set).length ≤ 32 → (∀ s', Fr XF s s' → FLc s' (l ++ wsL fin k room rest set) → Q s') → c1_search_3 (g1 d) (lN rest) (nI room) (nI set) (nI (fin + 1 - k)) Q s
  | 0, room, rest, set, l, s, Q, hk, hr, hr1, hr6, h0, h45, hs, hF, hP, A, hl, h => by
    refine e_c1_search_3 (mo_g1 d) (br_t (by rw [hF]; exact nI_lt (by omega) (by omega)) (h s fr_rf ?_))
    unfold wsL
    rw [List.append_nil]
    exact A
  | k + 1, room, rest, set, l, s, Q, hk, hr, hr1, hr6, h0, h45, hs, hF, hP, A, hl, h => by
    have en : fin + 1 - (k + 1) = fin - k := by omega
    have hp := prt_le (fin - k)
    have hs24 : set < 2 ^ 24 := Nat.lt_of_lt_of_le hs (Nat.pow_le_pow_right (by decide) (by omega))
    have hm : prt (fin - k) * room ≤ 5354228880 * 6 := Nat.mul_le_mul hp hr6
    have hor : (nI set ||| ((1 : Int32) <<< ((nI (fin - k) - (1 : Int32)) &&& 31))) = nI (set ||| 2 ^ (fin - k - 1)) := by
      rw [show (1 : Int32) = nI 1 from rfl, pk_sub (by omega), show nI 1 = (1 : Int32) from rfl, one_shl (by omega), nI_or]
    have hset2 : set ||| 2 ^ (fin - k - 1) < 2 ^ (fin - k) := or_lt (n := 0) hs hk
    have hset3 : set < 2 ^ (fin - k) := Nat.lt_trans hs (Nat.pow_lt_pow_right (by decide) (by omega))
    refine e_c1_search_3 (mo_g1 d) (br_f (by rw [hF]; exact nI_nlt (by omega) (by omega)) ?_)
    rw [en, nI_clamp (by omega), hP _ (by omega) (by omega), nI_l (by omega), lN_mul, lN_ltB (by omega) (by omega), hor, lN_eqB (by omega) (by omega), lN_ltB (by omega) (by omega)]
    have next : ∀ l' s', Fr XF s s' → FLc s' l' → (l' ++ wsL fin k room rest set).length ≤ 32 → (∀ s'', Fr XF s s'' → FLc s'' (l' ++ wsL fin k room rest set) → Q s'') → c1_search_3 (g1 d) (lN rest) (nI room) (nI set) (nI (fin - k) + (1 : Int32)) Q s' := fun l' s' F' A' hl' h' => by
      rw [nI_1, show fin - k + 1 = fin + 1 - k by omega]
      exact w_srch hf hS k room rest set l' s' Q (by omega) hr hr1 hr6 h0 h45 hset3 (by rw [F'.1 _ _ rfl]; exact hF) (prC_fr F' (fun _ => rfl) hP) A' hl' (fun s'' F'' A'' => h' s'' (fr_tr F' F'') A'')
    unfold wsL at hl h
    refine ⟨vp_in_nI (by omega) (by decide), br_c (fun q => ?_) (fun q x hx => ⟨vp_in_nI (by omega) (by decide), br_c (fun q2 => ?_) (fun q2 => ⟨vp_in_nI (by omega) (by decide), br_c (fun q3 => ?_) (fun q3 => ?_)⟩)⟩)⟩
    · rw [if_pos q, List.append_nil] at h
      exact h s fr_rf A
    · rw [if_neg q, if_pos q2] at hl h
      subst hx
      have hl1 : l.length < 32 := by
        rw [List.length_append, List.length_cons] at hl
        omega
      refine w_keepSet A hl1 (fun s1 F1 A1 => next _ s1 F1 A1 ?_ ?_)
      · rw [List.append_assoc]; exact hl
      · rw [List.append_assoc]; exact h
    · by_cases q4 : 1 < room
      · rw [if_neg q, if_neg q2, if_pos ⟨q3, q4⟩] at hl h
        refine br_t (nI_lt (a := 1) q4 (by omega)) ⟨vp_in_nI (by omega) (by decide), ?_⟩
        subst hx
        rw [lN_sub (by omega), nI_1, show fin - k + 1 = fin + 1 - k by omega, show (1 : Int32) = nI 1 from rfl, pk_sub (by omega)]
        rw [← List.append_assoc] at hl h
        refine hS k (room - 1) (rest - prt (fin - k)) _ l s _ (by omega) (by omega) (by omega) (by omega) (by omega) (by omega) hset2 hF hP A (len_app hl) (fun s1 F1 A1 => ?_)
        have := next _ s1 F1 A1 hl h
        rw [nI_1, show fin - k + 1 = fin + 1 - k by omega] at this
        exact this
      · rw [if_neg q, if_neg q2, if_neg (fun z => q4 z.2)] at hl h
        exact br_f (nI_nlt (a := 1) (by omega) (by decide)) (next l s fr_rf A hl h)
    · rw [if_neg q, if_neg q2, if_neg (fun z => q3 z.1)] at hl h
      exact next l s fr_rf A hl h
theorem w_g1 {fin : Nat} (hf : fin ≤ 24) : ∀ d, d ≤ 8 → ∀ k room rest set l s (Q : Int32 → sT → Prop), k ≤ fin → room ≤ d → 1 ≤ room → room ≤ 6 → 0 < rest → rest < 2 ^ 45 → set < 2 ^ (fin - k) → rI s 21 0 = nI fin → prC s → FLc s l → (l ++ wsL fin k room rest set).length ≤ 32 → (∀ s', Fr XF s s' → FLc s' (l ++ wsL fin k room rest set) → Q 0 s') → g1 d 0 (lN rest) (nI (fin + 1 - k)) (nI room) (nI set) Q s
  | 0, _, k, room, rest, set, l, s, Q, hk, hr, hr1, hr6, h0, h45, hs, hF, hP, A, hl, h => by omega
  | d + 1, hd, k, room, rest, set, l, s, Q, hk, hr, hr1, hr6, h0, h45, hs, hF, hP, A, hl, h => by
    show c1_search (g1 d) (lN rest) (nI (fin + 1 - k)) (nI room) (nI set) (fun s => Q 0 s) s
    refine e_c1_search (mo_g1 d) ?_
    exact w_srch hf (fun k room rest set l s Q a b c c6 e f g i j m n o => w_g1 hf d (by omega) k room rest set l s Q a b c c6 e f g i j m n o) k room rest set l s _ hk hr hr1 hr6 h0 h45 hs hF hP A hl h
/-- the class finds all writings of a share of U units -/
theorem w_find {fin most : Nat} {U : Nat} {Q : Int32 → sT → Prop} {s : sT} (hf : fin ≤ 24) (hm1 : 1 ≤ most) (hm : most ≤ 6) (hF : rI s 21 0 = nI fin) (hM : rI s 21 1 = nI most) (hP : prC s) (K : IK s fin most) (hU : 0 < U) (h45 : U < 2 ^ 45) (h : ∀ s', Fr (fun a j => XF a j || (Nat.beq a 35 && Nat.beq j 6)) s s' → IK s' fin most → FLc s' (wrs fin most U) → Q (nI (wrs fin most U).length) s') : c1_find (lN U) Q s := by
  have h32 := wrs_32 (fin := fin) (most := most) hf hm hU
  refine e_c1_find (br_c (fun q => ?_) (fun q u hu v hv => ?_))
  · rcases K with ⟨a, b⟩ | ⟨V, a, b, c, d, e⟩
    · rw [← q, lN_t (by omega)] at a
      omega
    · rw [c, lN_eqB (by omega) (by omega)] at q
      subst q
      rw [d]
      exact h s fr_rf (Or.inr ⟨U, a, b, c, d, e⟩) ⟨d, e⟩
  · have Fv : Fr (fun a j => XF a j || (Nat.beq a 35 && Nat.beq j 6)) s v := by rw [hv]; exact fr_wJ (by rw [hu]; exact fr_wI fr_rf rfl) rfl
    refine br_t ((lN_ltB (a := 0) (by decide) (by omega)).2 hU) ?_
    have vM : rI v 21 1 = nI most := by rw [Fv.1 _ _ rfl]; exact hM
    rw [vM]
    have := w_g1 (fin := fin) hf 8 (Nat.le_refl _) fin most U 0 [] v (fun _ s7 => Q (rI s7 35 3) s7) (Nat.le_refl _) (by omega) hm1 hm hU h45 (by simp) (by rw [Fv.1 _ _ rfl]; exact hF) (prC_fr Fv (fun _ => rfl) hP) ⟨by rw [hv, rI_wJ, hu, rI_wI, if_pos ⟨rfl, rfl⟩]; rfl, fun k hk => by simp at hk⟩ (by rw [List.nil_append]; exact h32) (fun s' F' A' => ?_)
    · rw [show fin + 1 - fin = 1 by omega] at this
      exact this
    · rw [List.nil_append] at A'
      show Q (rI s' 35 3) s'
      rw [A'.1]
      refine h s' (fr_tr Fv (fr_mo F' fun a j q => by simp only [q, Bool.true_or])) (Or.inr ⟨U, hU, h45, ?_, A'.1, A'.2⟩) A'
      rw [F'.2.1 _ _ rfl, hv, rJ_wJ, if_pos ⟨rfl, rfl⟩]
theorem w_find0 {fin most : Nat} {v : Int64} {Q : Int32 → sT → Prop} {s : sT} (K : IK s fin most) (hv : v.toInt ≤ 0) (h : ∀ s', Fr (fun a j => XF a j || (Nat.beq a 35 && Nat.beq j 6)) s s' → IK s' fin most → FLc s' [] → Q (nI 0) s') : c1_find v Q s := by
  refine e_c1_find (br_c (fun q => ?_) (fun q u hu t ht => ?_))
  · rcases K with ⟨a, b⟩ | ⟨V, a, b, c, d, e⟩
    · rw [b]
      exact h s fr_rf (Or.inl ⟨a, b⟩) ⟨b, fun k hk => by simp at hk⟩
    · rw [q, c, lN_t (by omega)] at hv
      omega
  · have t3 : rI t 35 3 = 0 := by rw [ht, rI_wJ, hu, rI_wI, if_pos ⟨rfl, rfl⟩]
    refine br_f (by rw [fa_lt64, L0]; omega) ?_
    rw [t3]
    refine h t (by rw [ht]; exact fr_wJ (by rw [hu]; exact fr_wI fr_rf rfl) rfl) (Or.inl ⟨?_, t3⟩) ⟨t3, fun k hk => by simp at hk⟩
    rw [ht, rJ_wJ, if_pos ⟨rfl, rfl⟩]
    exact hv
