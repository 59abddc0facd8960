/-- the writings found so far, in the reference -/
def FLr (s : sT) (l : List Nat) : Prop := rI s 162 53 = nI l.length ∧ ∀ k (h : k < l.length), rI s 201 k = nI l[k]
def XL (a j : Nat) : Bool := Nat.beq a 201 || (Nat.beq a 202 || (Nat.beq a 203 || (Nat.beq a 162 && Nat.beq j 53)))
/-- the rows below a depth and what they leave -/
def orR (r : Nat → Nat) : Nat → Nat
  | 0 => 0
  | d + 1 => orR r d ||| 2 ^ (r d - 1)
def rwR (s : sT) (d : Nat) (r v : Nat → Nat) : Prop := ∀ k, k < d → rI s 202 k = nI (r k) ∧ rJ s 203 k = lN (v k)
theorem orR_cong {r r' : Nat → Nat} : ∀ {d : Nat}, (∀ k, k < d → r k = r' k) → orR r d = orR r' d
  | 0, _ => rfl
  | d + 1, h => by rw [orR, orR, orR_cong (fun k hk => h k (by omega)), h d (by omega)]
theorem w_rowSet {d : Nat} {r : Nat → Nat} {Q : Int32 → sT → Prop} {s : sT} (hd : d < 6) (hr : ∀ k, k ≤ d → rI s 202 k = nI (r k) ∧ 1 ≤ r k ∧ r k ≤ 24) (h : Q (nI (orR r (d + 1))) s) : ∀ m k, k + m = d + 1 → c12_rowSet_4 (nI d) (nI (orR r k)) (nI k) Q s
  | 0, k, e => by
    have e : k = d + 1 := e
    subst e
    exact e_c12_rowSet_4 (br_t (nI_lt (by omega) (by omega)) h)
  | m + 1, k, e => by
    obtain ⟨a, b, c⟩ := hr k (by omega)
    refine e_c12_rowSet_4 (br_f (nI_nlt (by omega) (by omega)) ⟨vp_in_nI (by omega) (by decide), fun x hx => ?_⟩)
    rw [nI_clamp (by omega), a, show (1 : Int32) = nI 1 from rfl, pk_sub b, show nI 1 = (1 : Int32) from rfl, one_shl (by omega), nI_or] at hx
    rw [hx, nI_1]
    exact w_rowSet hd hr h m (k + 1) (by omega)
theorem mpR {s : sT} {most : Nat} {Q : Int32 → sT → Prop} (ht : rI s 162 49 = 1) (h6 : rI s 193 6 = nI most) (h : Q (nI most) s) : c12_mostParts Q s :=
  e_c12_mostParts (br_f (by rw [ht]; decide) (by rw [h6]; exact h))
theorem w_lays31 {fin most : Nat} {s0 : sT} (hf : fin ≤ 24) (hm : most ≤ 6) (hF : rI s0 193 5 = nI fin) (ht : rI s0 162 49 = 1) (h6 : rI s0 193 6 = nI most) : ∀ k d rest l (r v : Nat → Nat) s (Q : sT → Prop), k ≤ fin → d < most → 0 < rest → rest < 2 ^ 45 → Fr XL s0 s → rwR s d r v → rI s 202 d = nI (fin - k) → rJ s 203 d = lN rest → (∀ i, i < d → 1 ≤ r i ∧ r i ≤ 24) → FLr s l → (l ++ wsL fin k (most - d) rest (orR r d)).length ≤ 32 → (∀ s', Fr XL s0 s' → rwR s' d r v → FLr s' (l ++ wsL fin k (most - d) rest (orR r d)) → c12_laysWritings_31 (nI d + (-1 : Int32)) Q s') → c12_laysWritings_31 (nI d) Q s
  | 0, d, rest, l, r, v, s, Q, hk, hd, h0, h45, F, R, e2, e3, hr, A, hl, h => by
    have hd6 : d < 6 := by omega
    refine e_c12_laysWritings_31 (br_f (nI_pos (by omega)) ⟨vp_in_nI hd6 (by decide), vp_in_nI hd6 (by decide), fun u hu => ⟨vp_in_nI hd6 (by decide), e_c12_finest ?_⟩⟩)
    rw [nI_clamp (by omega), e2, Nat.sub_zero, nI_1] at hu
    have u2 : rI u 202 d = nI (fin + 1) := by rw [hu, rI_wI, if_pos ⟨rfl, rfl⟩]
    have uF : rI u 193 5 = nI fin := by rw [hu, rI_wI, if_neg (by omega), F.1 _ _ rfl]; exact hF
    rw [nI_clamp (by omega), u2, uF]
    refine br_t (nI_lt (by omega) (by omega)) (h u (by rw [hu]; exact fr_wI F rfl) (fun i hi => ?_) ?_)
    · rw [hu, rI_wI, if_neg (by omega), rJ_wI]; exact R i hi
    · unfold wsL
      rw [List.append_nil]
      exact ⟨by rw [hu, rI_wI, if_neg (by omega)]; exact A.1, fun i hi => by rw [hu, rI_wI, if_neg (by omega)]; exact A.2 i hi⟩
  | k + 1, d, rest, l, r, v, s, Q, hk, hd, h0, h45, F, R, e2, e3, hr, A, hl, h => by
    have hd6 : d < 6 := by omega
    have hp := prt_le (fin - k)
    have hn1 : 1 ≤ fin - k := by omega
    have hn24 : fin - k ≤ 24 := by omega
    have hmm : (most - d) * prt (fin - k) ≤ 6 * 5354228880 := Nat.mul_le_mul (by omega) hp
    refine e_c12_laysWritings_31 (br_f (nI_pos (by omega)) ⟨vp_in_nI hd6 (by decide), vp_in_nI hd6 (by decide), fun u hu => ⟨vp_in_nI hd6 (by decide), e_c12_finest ?_⟩⟩)
    rw [nI_clamp (by omega), e2, nI_1, show fin - (k + 1) + 1 = fin - k by omega] at hu
    have u2 : rI u 202 d = nI (fin - k) := by rw [hu, rI_wI, if_pos ⟨rfl, rfl⟩]
    have Fu : Fr XL s0 u := by rw [hu]; exact fr_wI F rfl
    have uF : rI u 193 5 = nI fin := by rw [Fu.1 _ _ rfl]; exact hF
    have u3 : rJ u 203 d = lN rest := by rw [hu, rJ_wI]; exact e3
    have Ru : rwR u d r v := fun i hi => by rw [hu, rI_wI, if_neg (by omega), rJ_wI]; exact R i hi
    have Au : FLr u l := ⟨by rw [hu, rI_wI, if_neg (by omega)]; exact A.1, fun i hi => by rw [hu, rI_wI, if_neg (by omega)]; exact A.2 i hi⟩
    have uT : rI u 162 49 = 1 := by rw [Fu.1 _ _ rfl]; exact ht
    have u6 : rI u 193 6 = nI most := by rw [Fu.1 _ _ rfl]; exact h6
    have hdiv : (5354228880 : Int64) / (Int32.toInt64 (nI (fin - k))) = lN (prt (fin - k)) := by
      rw [nI_l (by omega)]
      exact lN_div (a := 5354228880) (by decide) (by omega) (by omega)
    have hne0 : ¬ (Int32.toInt64 (nI (fin - k))) = 0 := by
      rw [nI_l (by omega), show (0 : Int64) = lN 0 from rfl, lN_eqB (by omega) (by decide)]
      omega
    rw [nI_clamp (by omega), u2, uF]
    refine br_f (nI_nlt (by omega) (by omega)) ⟨vp_in_nI hd6 (by decide), mpR uT u6 ?_⟩
    rw [u2, u3, hdiv, pk_sub (by omega), nI_l (n := most - d) (by omega), lN_mul, lN_ltB (by omega) (by omega)]
    -- the next size at this depth
    have next : ∀ l' s', Fr XL s0 s' → rwR s' d r v → rI s' 202 d = nI (fin - k) → rJ s' 203 d = lN rest → FLr s' l' → (l' ++ wsL fin k (most - d) rest (orR r d)).length ≤ 32 → (∀ s'', Fr XL s0 s'' → rwR s'' d r v → FLr s'' (l' ++ wsL fin k (most - d) rest (orR r d)) → c12_laysWritings_31 (nI d + (-1 : Int32)) Q s'') → c12_laysWritings_31 (nI d) Q s' := fun l' s' F' R' g2 g3 A' hl' h' =>
      w_lays31 hf hm hF ht h6 k d rest l' r v s' Q (by omega) hd h0 h45 F' R' g2 g3 hr A' hl' h'
    unfold wsL at hl h
    rw [Nat.mul_comm (prt (fin - k)) (most - d)] at hl h
    refine ⟨vp_in_nI hd6 (by decide), hne0, br_c (fun q => ?_) (fun q => ⟨vp_in_nI hd6 (by decide), vp_in_nI hd6 (by decide), hne0, fun x hx => ?_⟩)⟩
    · rw [if_pos q, List.append_nil] at h
      exact h u Fu Ru Au
    rw [if_neg q] at hl h
    have hx2 : x.toInt = (rest : Int) - prt (fin - k) := by
      rw [hx, fb_subL (by rw [lN_t (by omega), lN_t (by omega)]; omega) (by rw [lN_t (by omega), lN_t (by omega)]; omega), lN_t (by omega), lN_t (by omega)]
    have tail : ∀ (l' : List Nat) (s' : sT), Fr XL s0 s' → rwR s' d r v → rI s' 202 d = nI (fin - k) → rJ s' 203 d = lN rest → FLr s' l' → x.toInt ≤ 0 → (l' ++ wsL fin k (most - d) rest (orR r d)).length ≤ 32 → (∀ s'', Fr XL s0 s'' → rwR s'' d r v → FLr s'' (l' ++ wsL fin k (most - d) rest (orR r d)) → c12_laysWritings_31 (nI d + (-1 : Int32)) Q s'') → c12_laysWritings_154 (nI d) x Q (fun v3 s => c12_laysWritings_31 v3 Q s) s' := fun l' s' F' R' g2 g3 A' hxn hl' h' =>
      e_c12_laysWritings_154 (br_f (by rw [fa_lt64, L0]; omega) (next l' s' F' R' g2 g3 A' hl' h'))
    by_cases q2 : prt (fin - k) = rest
    · rw [if_pos q2] at hl h
      have hx0 : x = (0 : Int64) := (fa_eq64 _ _).2 (by rw [hx2, q2, L0]; omega)
      have hl1 : l.length < 32 := by
        rw [List.length_append, List.length_cons] at hl
        omega
      refine br_t hx0 ?_
      rw [Au.1]
      let r' : Nat → Nat := fun i => if i = d then fin - k else r i
      have er : orR r' (d + 1) = orR r d ||| 2 ^ (fin - k - 1) := by
        show orR r' d ||| 2 ^ (r' d - 1) = _
        have e1 : r' d = fin - k := if_pos rfl
        rw [e1, orR_cong (r := r') (r' := r) (fun i hi => if_neg (by omega))]
      refine br_t (nI_lt (b := 2000) (by omega) (by decide)) (e_c12_rowSet (w_rowSet (r := r') hd6 (fun i hi => ?_) ⟨vp_in_nI (by omega) (by decide), fun y hy z hz => ?_⟩ (d + 1) 0 (by omega)))
      · by_cases w : i = d
        · subst w
          have e1 : r' i = fin - k := if_pos rfl
          rw [e1]
          exact ⟨u2, hn1, hn24⟩
        · have e1 : r' i = r i := if_neg w
          rw [e1]
          exact ⟨(Ru i (by omega)).1, (hr i (by omega)).1, (hr i (by omega)).2⟩
      · rw [nI_clamp (by omega), er] at hy
        have y53 : rI y 162 53 = nI l.length := by rw [hy, rI_wI, if_neg (by omega)]; exact Au.1
        rw [y53, nI_1] at hz
        have Fz : Fr XL s0 z := by rw [hz]; exact fr_wI (by rw [hy]; exact fr_wI Fu rfl) rfl
        have rz : ∀ a j, a = 202 → rI z a j = rI u a j := fun a j w => by rw [hz, rI_wI, if_neg (by omega), hy, rI_wI, if_neg (by omega)]
        have rzj : ∀ a j, rJ z a j = rJ u a j := fun a j => by rw [hz, hy]; rfl
        refine tail (l ++ [orR r d ||| 2 ^ (fin - k - 1)]) z Fz (fun i hi => by rw [rz _ _ rfl, rzj]; exact Ru i hi) (by rw [rz _ _ rfl]; exact u2) (by rw [rzj]; exact u3) ⟨by rw [hz, rI_wI, if_pos ⟨rfl, rfl⟩]; simp, fun i hi => ?_⟩ (by rw [hx0, L0]; omega) (by rw [List.append_assoc]; exact hl) (by rw [List.append_assoc]; exact h)
        rw [get_snoc hi, hz, rI_wI, if_neg (by omega), hy, rI_wI]
        simp only [List.length_append, List.length_cons, List.length_nil] at hi
        by_cases w : i < l.length
        · rw [if_neg (by omega), dif_pos w]
          exact Au.2 i w
        · rw [if_pos ⟨rfl, by omega⟩, dif_neg w]
    · rw [if_neg q2] at hl h
      have hx0 : ¬ x = (0 : Int64) := fun z => by
        rw [fa_eq64, hx2, L0] at z
        omega
      refine br_f hx0 ?_
      by_cases q3 : prt (fin - k) < rest
      · by_cases q4 : 1 < most - d
        · rw [if_pos ⟨q3, q4⟩, ← List.append_assoc] at hl h
          refine e_c12_laysWritings_154 (br_t (by rw [fa_lt64, L0]; omega) (mpR uT u6 ?_))
          rw [nI_1, nI_eq (by omega) (by omega)]
          refine br_f (by omega) ⟨by rw [nI_pred]; exact vp_in_nI hd6 (by decide), vp_in_nI (by omega) (by decide), fun y hy => ⟨vp_in_nI (by omega) (by decide), fun z hz => ?_⟩⟩
          rw [nI_pred, nI_clamp (by omega), nI_clamp (by omega), u2] at hy
          rw [nI_clamp (by omega)] at hz
          have hxl : x = lN (rest - prt (fin - k)) := (fa_eq64 _ _).2 (by rw [hx2, lN_t (by omega)]; omega)
          rw [hxl] at hz
          have Fz : Fr XL s0 z := by rw [hz]; exact fr_wJ (by rw [hy]; exact fr_wI Fu rfl) rfl
          have rz : ∀ a j, ¬ (a = 202 ∧ j = d + 1) → rI z a j = rI u a j := fun a j w => by rw [hz, rI_wJ, hy, rI_wI, if_neg w]
          have rzj : ∀ a j, ¬ (a = 203 ∧ j = d + 1) → rJ z a j = rJ u a j := fun a j w => by rw [hz, rJ_wJ, if_neg w, hy, rJ_wI]
          let r' : Nat → Nat := fun i => if i = d then fin - k else r i
          let v' : Nat → Nat := fun i => if i = d then rest else v i
          have er : orR r' (d + 1) = orR r d ||| 2 ^ (fin - k - 1) := by
            show orR r' d ||| 2 ^ (r' d - 1) = _
            have e1 : r' d = fin - k := if_pos rfl
            rw [e1, orR_cong (r := r') (r' := r) (fun i hi => if_neg (by omega))]
          have em : most - (d + 1) = most - d - 1 := by omega
          refine w_lays31 hf hm hF ht h6 k (d + 1) (rest - prt (fin - k)) l r' v' z Q (by omega) (by omega) (by omega) (by omega) Fz (fun i hi => ?_) ?_ ?_ (fun i hi => ?_) ⟨by rw [rz _ _ (by omega)]; exact Au.1, fun i hi => by rw [rz _ _ (by omega)]; exact Au.2 i hi⟩ (by rw [er, em]; exact len_app hl) (fun s1 F1 R1 A1 => ?_)
          · rw [rz _ _ (by omega), rzj _ _ (by omega)]
            by_cases w : i = d
            · subst w
              have e1 : r' i = fin - k := if_pos rfl
              have e2 : v' i = rest := if_pos rfl
              rw [e1, e2]
              exact ⟨u2, u3⟩
            · have e1 : r' i = r i := if_neg w
              have e2 : v' i = v i := if_neg w
              rw [e1, e2]
              exact Ru i (by omega)
          · rw [hz, rI_wJ, hy, rI_wI, if_pos ⟨rfl, rfl⟩]
          · rw [hz, rJ_wJ, if_pos ⟨rfl, rfl⟩]
          · by_cases w : i = d
            · have e1 : r' i = fin - k := if_pos w
              rw [e1]
              exact ⟨hn1, hn24⟩
            · have e1 : r' i = r i := if_neg w
              rw [e1]
              exact hr i (by omega)
          · rw [er, em] at A1
            have d1 := R1 d (by omega)
            have e1 : r' d = fin - k := if_pos rfl
            have e2 : v' d = rest := if_pos rfl
            rw [e1, e2] at d1
            rw [pk_m1]
            refine next _ s1 F1 (fun i hi => ?_) d1.1 d1.2 A1 hl h
            have := R1 i (by omega)
            have g1 : r' i = r i := if_neg (by omega)
            have g2 : v' i = v i := if_neg (by omega)
            rw [g1, g2] at this
            exact this
        · rw [if_neg (fun z => q4 z.2)] at hl h
          refine e_c12_laysWritings_154 (br_t (by rw [fa_lt64, L0]; omega) (mpR uT u6 ?_))
          rw [nI_1, nI_eq (by omega) (by omega)]
          exact br_t (by omega) (next l u Fu Ru u2 u3 Au hl h)
      · rw [if_neg (fun z => q3 z.1)] at hl h
        exact tail l u Fu Ru u2 u3 Au (by omega) hl h
/-- the reference lays all writings of a share of U units -/
theorem w_lays {fin most U : Nat} {Q : sT → Prop} {s : sT} (hf : fin ≤ 24) (hm1 : 1 ≤ most) (hm : most ≤ 6) (hF : rI s 193 5 = nI fin) (ht : rI s 162 49 = 1) (h6 : rI s 193 6 = nI most) (hU : 0 < U) (h45 : U < 2 ^ 45) (h : ∀ s', Fr XL s s' → FLr s' (wrs fin most U) → Q s') : c12_laysWritings (lN U) Q s := by
  have h32 := wrs_32 (fin := fin) (most := most) hf hm hU
  refine e_c12_laysWritings (fun u hu => br_t ((lN_ltB (a := 0) (by decide) (by omega)).2 hU) (fun v hv w hw => ?_))
  have Fw : Fr XL s w := by rw [hw]; exact fr_wJ (by rw [hv]; exact fr_wI (by rw [hu]; exact fr_wI fr_rf rfl) rfl) rfl
  have := w_lays31 (s0 := s) hf hm hF ht h6 fin 0 U [] (fun _ => 0) (fun _ => 0) w Q (Nat.le_refl _) (by omega) hU h45 Fw (fun i hi => by omega) (by rw [hw, rI_wJ, hv, rI_wI, if_pos ⟨rfl, rfl⟩, Nat.sub_self]; rfl) (by rw [hw, rJ_wJ, if_pos ⟨rfl, rfl⟩]) (fun i hi => by omega) ⟨by rw [hw, rI_wJ, hv, rI_wI, if_neg (by omega), hu, rI_wI, if_pos ⟨rfl, rfl⟩]; rfl, fun i hi => by simp at hi⟩ (by rw [List.nil_append]; exact h32) (fun s' F' R' A' => e_c12_laysWritings_31 (br_t (by decide) (h s' F' (by rw [List.nil_append] at A'; exact A'))))
  exact this
theorem w_lays0 {v : Int64} {Q : sT → Prop} {s : sT} (hv : v.toInt ≤ 0) (h : ∀ s', Fr XL s s' → FLr s' [] → Q s') : c12_laysWritings v Q s := by
  refine e_c12_laysWritings (fun u hu => br_f (by rw [fa_lt64, L0]; omega) (fun t ht w hw => e_c12_laysWritings_31 (br_t (by decide) (h w (by rw [hw]; exact fr_wJ (by rw [ht]; exact fr_wI (by rw [hu]; exact fr_wI fr_rf rfl) rfl) rfl) ⟨?_, fun i hi => by simp at hi⟩))))
  rw [hw, rI_wJ, ht, rI_wI, if_neg (by omega), hu, rI_wI, if_pos ⟨rfl, rfl⟩]
  rfl
