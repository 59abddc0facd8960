-- numbers and names of an office
def nOK (T : Tok) (lo hi v : Nat) : Prop := ∃ l, T = tNm l ∧ l.length ≤ 4 ∧ lo ≤ nmV l 0 ∧ nmV l 0 ≤ hi ∧ nmV l 0 < 10000 ∧ v = nmV l 0
def nNo (T : Tok) (p lo hi f pl : Nat) : Prop := (∃ l, T = tNm l ∧ l.length ≤ 4 ∧ ¬ (lo ≤ nmV l 0 ∧ nmV l 0 ≤ hi) ∧ f = 2 ∧ pl = p) ∨ (∃ l, T = tNm l ∧ 4 < l.length ∧ f = 1 ∧ pl = p + 4) ∨ ((∀ l, T ≠ tNm l) ∧ f = 1 ∧ pl = p)
theorem tNm_i {T : Tok} {l l' : List Nat} (h : T = tNm l) (h' : T = tNm l') : l = l' := (Prod.mk.inj (h.symm.trans h')).2
theorem tWd_i {T : Tok} {l l' : List Nat} (h : T = tWd l) (h' : T = tWd l') : l = l' := (Prod.mk.inj (h.symm.trans h')).2
theorem tn_stk {b : Nat → Nat} {n : Nat} {P : pT} {l : List Nat} (h : tok b n P = tNm l) : tok b n P ≠ tStk := fun y => absurd (Prod.mk.inj (h.symm.trans y)).1 (by decide)
theorem nNo_f {T : Tok} {p lo hi f pl : Nat} (h : nNo T p lo hi f pl) : 1 ≤ f ∧ f ≤ 5 := by
  rcases h with ⟨l, -, -, -, rfl, -⟩ | ⟨l, -, -, rfl, -⟩ | ⟨-, rfl, -⟩ <;> decide
theorem c_takeNum {lo hi : Nat} {b : Nat → Nat} {n : Nat} {P : pT} {Q : Int32 → sT → Prop} {s : sT} (hl : lo < 10000) (hh : hi < 10000) (T : TC s b n) (S : CS s b n P) (h1 : ∀ v, nOK (tok b n P) lo hi v → ∀ s', Fr X4 s s' → CS s' b n (adv b n P) → Q (nI v) s') (h0 : ∀ f pl, nNo (tok b n P) P.1 lo hi f pl → ∀ s', Fr X45 s s' → rI s' 4 4 = nI f → rI s' 4 5 = nI pl → Q (-1) s') : c8_takeNumber (nI lo) (nI hi) Q s := by
  refine e_c8_takeNumber (c_seeNum T S (fun l hl4 h4 hv => ?_) (fun l hl4 h4 s' F S' e1 e2 => br_t rfl (h0 1 _ (Or.inr (Or.inl ⟨l, hl4, h4, rfl, rfl⟩)) s' F e1 e2)) (fun hn s' F e1 e2 => br_t rfl (h0 1 _ (Or.inr (Or.inr ⟨hn, rfl, rfl⟩)) s' F e1 e2)))
  refine br_f (nI_nm (by omega)) ?_
  rw [nI_ltI (by omega) (by omega), nI_ltI (by omega) (by omega)]
  have bad : ¬ (lo ≤ nmV l 0 ∧ nmV l 0 ≤ hi) → c8_fail (2 : Int32) (fun y4 u5 => Q (-1 : Int32) u5) s := fun q => c_fail (v := 2) S (fun s' F e1 e2 => h0 2 _ (Or.inl ⟨l, hl4, h4, q, rfl, rfl⟩) s' F e1 e2)
  exact br_c (fun q => bad (by omega)) (fun q => br_c (fun q2 => bad (by omega)) (fun q2 => w_adv T S (tok_num.1 hl4).1 (tn_stk hl4) (fun s' F S' => h1 _ ⟨l, hl4, h4, by omega, by omega, hv, rfl⟩ s' F S')))
theorem r_numOK {lo hi v : Nat} {b : Nat → Nat} {n : Nat} {P : pT} {Q : Int32 → sT → Prop} {s : sT} (hh : hi < 100000) (hll : lo < 100000) (T : TR s b n) (R : RLx s b n P) (hk : nOK (tok b n P) lo hi v) (h : ∀ s', Fr XLS s s' → RLx s' b n (adv b n P) → rI s' 162 10 = nI P.1 → Q (nI v) s') : c12_number (nI lo) (nI hi) Q s := by
  obtain ⟨l, e1, e2, e3, e4, e5, rfl⟩ := hk
  refine r_number hh hll T R (fun l' q a1 a2 a3 a4 s' F L p => ?_) (fun l' q a1 a2 => ?_) (fun l' q a1 => ?_) (fun q => absurd e1 (q l))
  · obtain rfl := tNm_i e1 q
    exact h s' F L p
  · obtain rfl := tNm_i e1 q
    exact absurd ⟨e3, e4⟩ a2
  · obtain rfl := tNm_i e1 q
    omega
theorem r_numNo {lo hi f pl : Nat} {b : Nat → Nat} {n : Nat} {P : pT} {Q : Int32 → sT → Prop} {s : sT} (hh : hi < 100000) (hll : lo < 100000) (T : TR s b n) (R : RLx s b n P) (hk : nNo (tok b n P) P.1 lo hi f pl) (h : ∀ y s', Fr XLR s s' → RX s' f pl → Q y s') : c12_number (nI lo) (nI hi) Q s := by
  rcases hk with ⟨l, e1, e2, e3, rfl, rfl⟩ | ⟨l, e1, e2, rfl, rfl⟩ | ⟨e1, rfl, rfl⟩
  · refine r_number hh hll T R (fun l' q a1 a2 a3 => ?_) (fun l' q a1 a2 a3 s' F X => h _ s' F X) (fun l' q a1 => ?_) (fun q => absurd e1 (q l))
    · obtain rfl := tNm_i e1 q
      exact absurd ⟨a2, a3⟩ e3
    · obtain rfl := tNm_i e1 q
      omega
  · refine r_number hh hll T R (fun l' q a1 => ?_) (fun l' q a1 => ?_) (fun l' q a1 s' F X => h _ s' F X) (fun q => absurd e1 (q l))
    · obtain rfl := tNm_i e1 q
      omega
    · obtain rfl := tNm_i e1 q
      omega
  · exact r_number hh hll T R (fun l' q => absurd q (e1 l')) (fun l' q => absurd q (e1 l')) (fun l' q => absurd q (e1 l')) (fun q s' F X => h _ s' F X)
/-- what letters tell -/
def nmW : List Nat → Nat → Nat
  | [], a => a
  | c :: r, a => nmW r (a * 27 + (c - 96))
theorem nmW_at {b : Nat → Nat} {e : Nat} : ∀ m i a, m + i = e → nmW (sub b i e) a = if i < e then nmW (sub b (i + 1) e) (a * 27 + (b i - 96)) else a
  | 0, i, a, h => by
    have : i = e := by omega
    subst this
    rw [if_neg (by omega)]
    unfold sub
    rw [Nat.sub_self]
    rfl
  | m + 1, i, a, h => by
    rw [if_pos (by omega)]
    have : sub b i e = b i :: sub b (i + 1) e := by
      unfold sub
      rw [show e - i = (e - (i + 1)) + 1 by omega, List.range_succ_eq_map, List.map_cons, List.map_map]
      congr 1
      apply List.map_congr_left
      intro k _
      show b (i + (k + 1)) = b (i + 1 + k)
      congr 1
      omega
    rw [this]
    rfl
def nmOK (T : Tok) (l : List Nat) : Prop := T = tWd l ∧ l.length ≤ 6 ∧ l ∉ ownW
def nmNo (T : Tok) (p pl : Nat) : Prop := (∃ l, T = tWd l ∧ 6 < l.length ∧ pl = p + 6) ∨ ((∀ l, T = tWd l → l ∈ ownW) ∧ pl = p)
theorem ownW_6 : ∀ l, l ∈ ownW → l.length ≤ 6 := by decide
theorem nm66b {b : Nat → Nat} {n V : Nat} {P : pT} {Q : Int32 → sT → Prop} {s : sT} (c2 : rI s 4 2 = nI P.1) (c3 : rI s 4 3 = nI (eot b n P.1)) (hn : n ≤ 1600) (he : eot b n P.1 ≤ n) (hP : P.1 < n) (h : Q (nI V) s) : ∀ m i a, m + i = P.1 + 6 → eot b n P.1 ≤ i → a * 27 ^ m = V → c8_seeName_66 (nI a) (nI i) Q s := by
  intro m
  induction m with
  | zero =>
    intro i a e hi hv
    rw [Nat.pow_zero, Nat.mul_one] at hv
    refine e_c8_seeName_66 (br_f ?_ ?_)
    · rw [c2, show (6 : Int32) = nI 6 from rfl, nI_add]
      exact nI_nlt (by omega) (by omega)
    · rw [hv]; exact h
  | succ m ih =>
    intro i a e hi hv
    refine e_c8_seeName_66 (br_t ?_ (br_f (by rw [c3]; exact nI_nlt hi (by omega)) (fun x hx => ?_)))
    · rw [c2, show (6 : Int32) = nI 6 from rfl, nI_add]
      exact nI_lt (by omega) (by omega)
    · rw [show (27 : Int32) = nI 27 from rfl, pk_mul, show (0 : Int32) = nI 0 from rfl, nI_add, Nat.add_zero] at hx
      rw [hx, nI_1]
      refine ih (i + 1) (a * 27) (by omega) (by omega) ?_
      rw [← hv, Nat.pow_succ, Nat.mul_assoc, Nat.mul_comm 27]
theorem nm66 {b : Nat → Nat} {n V : Nat} {P : pT} {Q : Int32 → sT → Prop} {s : sT} (T : TC s b n) (hk : kd (b P.1) = 1) (c2 : rI s 4 2 = nI P.1) (c3 : rI s 4 3 = nI (eot b n P.1)) (hP : P.1 < n) (h6 : eot b n P.1 ≤ P.1 + 6) (h : Q (nI V) s) : ∀ m i a, m + i = eot b n P.1 → P.1 ≤ i → nmW (sub b i (eot b n P.1)) a * 27 ^ (P.1 + 6 - eot b n P.1) = V → c8_seeName_66 (nI a) (nI i) Q s := by
  have hn := T.1
  have he := eot_le (b := b) hP
  intro m
  induction m with
  | zero =>
    intro i a e hi hv
    rw [nmW_at 0 i a (by omega), if_neg (by omega)] at hv
    exact nm66b c2 c3 hn he hP h (P.1 + 6 - eot b n P.1) i a (by omega) (by omega) hv
  | succ m ih =>
    intro i a e hi hv
    have hb := T.2.2 i (by omega)
    have hl := let_of ((eot_in (n := n) (by rw [hk]; decide) hi (by omega)).trans hk)
    rw [nmW_at (m + 1) i a (by omega), if_pos (by omega)] at hv
    refine e_c8_seeName_66 (br_t ?_ (br_t (by rw [c3]; exact nI_lt (by omega) (by omega)) ⟨vp_in_nI (by omega) (by decide), fun x hx => ?_⟩))
    · rw [c2, show (6 : Int32) = nI 6 from rfl, nI_add]
      exact nI_lt (by omega) (by omega)
    · rw [nI_clamp (by omega), hb.2, show (27 : Int32) = nI 27 from rfl, pk_mul, show (97 : Int32) = nI 97 from rfl, pk_sub (by omega), nI_1, nI_add, show b i - 97 + 1 = b i - 96 by omega] at hx
      rw [hx, nI_1]
      exact ih (i + 1) _ (by omega) (by omega) hv
theorem c_seeNm {b : Nat → Nat} {n : Nat} {P : pT} {Q : Int32 → sT → Prop} {s : sT} (T : TC s b n) (S : CS s b n P) (h1 : ∀ l, nmOK (tok b n P) l → Q (nI (nmW l 0 * 27 ^ (6 - l.length))) s) (h0 : ∀ pl, nmNo (tok b n P) P.1 pl → ∀ s', Fr X45 s s' → rI s' 4 4 = nI 1 → rI s' 4 5 = nI pl → Q (-1) s') : c8_seeName Q s := by
  obtain ⟨-, -, k1, -⟩ := cs_kind S
  have hn := T.1
  refine e_c8_seeName (br_c (fun q => ?_) (fun q => c_fail (v := 1) S (fun s' F e1 e2 => h0 _ (Or.inr ⟨fun l y => absurd (k1.2 ⟨l, y⟩) q, rfl⟩) s' F e1 e2)))
  obtain ⟨d, hd⟩ := k1.1 q
  obtain ⟨d1, d2, d3, d4⟩ := tok_word.1 hd
  have he := eot_le (b := b) d1
  have hg := eot_gt (b := b) (n := n) (i := P.1)
  obtain ⟨-, c6, -⟩ := S.2.2.2 d1
  have hlen : d.length = eot b n P.1 - P.1 := by rw [← d4, sub_len]
  rw [S.2.1, c6, pk_sub (by omega), show (6 : Int32) = nI 6 from rfl, nI_ltI (by decide) (by omega)]
  refine br_c (fun q2 => e_c8_failAt (fun u hu v hv => ?_)) (fun q2 => c_own T S hd (fun hm => br_f (by decide) (c_fail (v := 1) S (fun s' F e1 e2 => h0 _ (Or.inr ⟨fun l y => by rw [tWd_i y hd]; exact hm, rfl⟩) s' F e1 e2))) (fun hm => br_t rfl (fun x hx => ?_)))
  · refine h0 _ (Or.inl ⟨d, hd, by omega, rfl⟩) v (by rw [hv, hu]; exact fr_wI (fr_wI fr_rf rfl) rfl) ?_ ?_
    · rw [hv, rI_wI, if_neg (by omega), hu, rI_wI, if_pos ⟨rfl, rfl⟩]
      rfl
    · rw [hv, rI_wI, if_pos ⟨rfl, rfl⟩, nI_add]
  · rw [hx, S.2.1]
    refine nm66 T d2 S.2.1 c6 d1 (by omega) (h1 d ⟨hd, by omega, hm⟩) (eot b n P.1 - P.1) P.1 0 (by omega) (Nat.le_refl _) ?_
    rw [d4, hlen, show P.1 + 6 - eot b n P.1 = 6 - (eot b n P.1 - P.1) by omega]
theorem nmW_lt {l : List Nat} (h : ∀ c, c ∈ l → 97 ≤ c ∧ c ≤ 122) : ∀ a, (nmW l a < (a + 1) * 27 ^ l.length) ∧ a * 27 ^ l.length ≤ nmW l a ∧ (0 < l.length → nmW l a % 27 ≠ 0 ∧ (a * 27 + 1) * 27 ^ (l.length - 1) ≤ nmW l a) := by
  induction l with
  | nil =>
    intro a
    refine ⟨?_, ?_, fun q => absurd q (Nat.lt_irrefl _)⟩
    · show a < (a + 1) * 1
      omega
    · show a * 1 ≤ a
      omega
  | cons c r ih =>
    intro a
    obtain ⟨i1, i2, i3⟩ := ih (fun x hx => h x (List.mem_cons_of_mem _ hx)) (a * 27 + (c - 96))
    have hc := h c List.mem_cons_self
    have e : nmW (c :: r) a = nmW r (a * 27 + (c - 96)) := rfl
    rw [e, List.length_cons, Nat.pow_succ]
    generalize hX : 27 ^ r.length = X at *
    have m1 : (a * 27 + (c - 96) + 1) * X ≤ ((a + 1) * 27) * X := Nat.mul_le_mul_right _ (by omega)
    have m2 : (a * 27 + 1) * X ≤ (a * 27 + (c - 96)) * X := Nat.mul_le_mul_right _ (by omega)
    have m3 : a * (X * 27) = (a * 27) * X := by rw [Nat.mul_comm X, Nat.mul_assoc]
    have m4 : (a + 1) * (X * 27) = ((a + 1) * 27) * X := by rw [Nat.mul_comm X, Nat.mul_assoc]
    have m5 : (a * 27) * X ≤ (a * 27 + 1) * X := Nat.mul_le_mul_right _ (by omega)
    refine ⟨by omega, by omega, fun _ => ⟨?_, ?_⟩⟩
    · rcases Nat.eq_zero_or_pos r.length with q | q
      · have : r = [] := List.length_eq_zero_iff.1 q
        subst this
        show (a * 27 + (c - 96)) % 27 ≠ 0
        omega
      · exact (i3 q).1
    · show (a * 27 + 1) * 27 ^ (r.length + 1 - 1) ≤ _
      rw [Nat.add_sub_cancel, hX]
      omega
theorem r_nm58 {b : Nat → Nat} {n : Nat} {P : pT} {l : List Nat} {Q : Int64 → sT → Prop} {s0 : sT} (T : TR s0 b n) (hk : tok b n P = tWd l) (h39 : rI s0 162 39 = nI P.1) (h1 : l.length ≤ 6 → ∀ s', Fr XLS s0 s' → RLx s' b n (adv b n P) → rI s' 162 39 = nI P.1 → Q (lN (nmW l 0)) s') (h3 : 6 < l.length → ∀ s', Fr XLR s0 s' → RX s' 1 (P.1 + 6) → Q 0 s') : ∀ m i a s, i + m = n → P.1 ≤ i → i ≤ P.1 + 6 → Fr X2R s0 s → rI s 162 2 = nI i → rI s 162 5 = 0 → a < 27 ^ (i - P.1) → run b n 1 i = eot b n P.1 → nmW (sub b i (eot b n P.1)) a = nmW l 0 → c12_name_58 (lN a) Q s := by
  have hn := T.1
  obtain ⟨d1, d2, d3, d4⟩ := tok_word.1 hk
  have he := eot_le (b := b) d1
  have hg := eot_gt (b := b) (n := n) (i := P.1)
  have hlen : l.length = eot b n P.1 - P.1 := by rw [← d4, sub_len]
  have p4 : ∀ i, i ≤ P.1 + 6 → 27 ^ (i - P.1) ≤ 27 ^ 6 := fun i h => Nat.pow_le_pow_right (by decide) (by omega)
  have done : ∀ i a s, P.1 ≤ i → i ≤ P.1 + 6 → i = eot b n P.1 → Fr X2R s0 s → rI s 162 2 = nI i → rI s 162 5 = 0 → a = nmW l 0 → ∀ u6 : sT, u6 = wI s 162 4 (rI s 162 2) → Q (lN a) u6 := by
    intro i a s gi gi4 hie F c2 c5 hv u hu
    have Fv : Fr XLS s0 u := by rw [hu]; exact fr_wI (fr_mo F fun a j q => xls_2 q) rfl
    rw [hv]
    exact h1 (by omega) u Fv (RL_adv (l := l) (TR_fr Fv rfl (fun _ => rfl) T) d1 (by rw [d2]; decide) (by rw [hu, rI_wI, if_neg (by omega)]; exact c5) (by rw [hu, rI_wI, if_neg (by omega), c2, hie]) (by rw [hu, rI_wI, if_pos ⟨rfl, rfl⟩, c2, hie])) (by rw [hu, rI_wI, if_neg (by omega), F.1 _ _ rfl]; exact h39)
  intro m
  induction m with
  | zero =>
    intro i a s e gi gi4 F c2 c5 ha hr hv
    rw [run_e (by omega)] at hr
    rw [nmW_at 0 i a (by omega), if_neg (by omega)] at hv
    exact e_c12_name_58 (br_f (by rw [c2, F.1 162 3 rfl, T.2.1]; exact nI_nlt (by omega) (by omega)) (done i a s gi gi4 hr F c2 c5 hv))
  | succ m ih =>
    intro i a s e gi gi4 F c2 c5 ha hr hv
    have hb := T.2.2 i (by omega)
    have := p4 i gi4
    refine e_c12_name_58 (br_t (by rw [c2, F.1 162 3 rfl, T.2.1]; exact nI_lt (by omega) (by omega)) ⟨by rw [c2]; exact vp_in_nI (by omega) (by decide), ?_⟩)
    have hval : rI s 163 (rI s 162 2).toNatClampNeg = nI (b i) := by rw [c2, nI_clamp (by omega), F.1 163 _ rfl, hb.2]
    rw [hval]
    refine r_letter hb.1 (fun q => yes1 ?_) (fun q => no0 ?_)
    · have hie : i < eot b n P.1 := by
        rw [← hr, run_s (by omega) q]
        have := run_ge (b := b) (n := n) (k := 1) (i := i + 1)
        omega
      have hdg := let_of q
      rw [hval, F.1 162 39 rfl, h39, c2, pk_sub gi, show (6 : Int32) = nI 6 from rfl, nI_eq (by omega) (by decide)]
      refine br_c (fun y => r_fail (f := 1) c5 (by decide) (fun s' F' X' => h3 (by omega) s' (fr_tr (fr_mo F fun a j q => xlr_2 q) F') (by rw [show P.1 + 6 = i by omega]; exact X'))) (fun y => ⟨vp_in_nI (by omega) (by decide), fun x hx u hu => ?_⟩)
      rw [show (27 : Int64) = lN 27 from rfl, lN_mul, nI_l (by omega), lN_add, show (97 : Int64) = lN 97 from rfl, lN_sub (by omega), lN_1] at hx
      rw [nI_1] at hu
      rw [hx]
      rw [nmW_at (eot b n P.1 - i) i a (by omega), if_pos hie] at hv
      refine ih (i + 1) _ u (by omega) (by omega) (by omega) (by rw [hu]; exact fr_wI F rfl) (by rw [hu, rI_wI, if_pos ⟨rfl, rfl⟩]) (by rw [hu, rI_wI, if_neg (by omega)]; exact c5) ?_ (by rw [← run_s (by omega) q]; exact hr) (by rw [show 27 * a + b i - 97 + 1 = a * 27 + (b i - 96) by omega]; exact hv)
      rw [show i + 1 - P.1 = (i - P.1) + 1 by omega, Nat.pow_succ]
      omega
    · rw [run_e (fun y => q y.2)] at hr
      rw [nmW_at 0 i a (by omega), if_neg (by omega)] at hv
      exact done i a s gi gi4 hr F c2 c5 hv
theorem r_nm {b : Nat → Nat} {n : Nat} {P : pT} {Q : Int64 → sT → Prop} {s : sT} (I : IC s) (T : TR s b n) (R : RLx s b n P) (h1 : ∀ l, nmOK (tok b n P) l → ∀ s', Fr XLS s s' → RLx s' b n (adv b n P) → rI s' 162 39 = nI P.1 → Q (lN (nmW l 0)) s') (h0 : ∀ pl, nmNo (tok b n P) P.1 pl → ∀ s', Fr XLR s s' → RX s' 1 pl → Q 0 s') : c12_name Q s := by
  have hn := T.1
  refine e_c12_name (br_t R.1 (r_look T R (fun s1 F1 N1 => ?_)))
  have F1' : Fr XLR s s1 := fr_mo F1 fun a j q => xlr_2 q
  have T1 := TR_fr F1 rfl (fun _ => rfl) T
  have I1 : IC s1 := IC_fr F1' (fun a j q => by
    unfold fIC at q
    unfold XLR
    rw [Bool.eq_false_iff]
    intro y
    simp only [Bool.or_eq_true, Bool.and_eq_true, Nat.beq_eq, Nat.ble_eq] at *
    omega) I
  have no : (∀ l, tok b n P = tWd l → l ∈ ownW) → c12_fail (1 : Int32) (rI s1 162 2) (fun u => Q 0 u) s1 := fun q => by
    rw [N1.2.1]
    exact r_fail (f := 1) N1.1.1 (by decide) (fun s' F' X' => h0 _ (Or.inr ⟨q, rfl⟩) s' (fr_tr F1' F') X')
  unfold lkv
  by_cases q : P.1 < n
  · rw [if_pos q]
    have hb := T.2.2 P.1 (by omega)
    refine r_letter hb.1 (fun k1 => yes1 ?_) (fun k1 => no0 (no (fun l y => absurd (tok_word.1 y).2.1 k1)))
    obtain ⟨N2, N3, N4⟩ := id N1
    obtain ⟨-, -, -, c, c6, c7, c8⟩ := id N2
    have hc2 : nI P.1 = cV c ↔ P.2 = true := by
      rw [c8]
      refine ⟨fun y => ?_, fun y => by rw [y, cV_s]⟩
      have := congrArg Int32.toInt y
      rw [cV_i (by omega), nI_toInt (by omega)] at this
      omega
    have hc3 : rI s1 162 2 = rI s1 162 4 ↔ P.2 = true := by rw [N3, c7]; exact hc2
    refine ⟨fun y => no (fun l z => ?_), fun y => ?_⟩
    · have := (tok_word.1 z).2.2.1
      rw [hc3.1 y] at this
      cases this
    · have hp2 : P.2 = false := Bool.eq_false_iff.2 (fun z => y (hc3.2 z))
      have hT : tok b n P = tWd (sub b P.1 (eot b n P.1)) := tok_word.2 ⟨q, k1, hp2, rfl⟩
      refine r_own I1 T1 N1.1 (fun hO s2 F2 N5 => br_f (by decide) ?_) (fun hO s2 F2 N5 => br_t rfl (fun u hu => ?_))
      · rw [N5.2.1]
        refine r_fail (f := 1) N5.1.1 (by decide) (fun s' F' X' => h0 _ (Or.inr ⟨fun l z => ?_, rfl⟩) s' (fr_tr F1' (fr_tr (fr_mo F2 fun a j q => xlr_2 q) F')) X')
        obtain ⟨l', m1, m2⟩ := hO
        rw [tWd_i z m2]
        exact m1
      · have F12 : Fr X2R s s2 := fr_tr F1 F2
        rw [N5.2.1] at hu
        have Fu : Fr XLS s u := by rw [hu]; exact fr_wI (fr_mo F12 fun a j q => xls_2 q) rfl
        have Tu := TR_fr Fu rfl (fun _ => rfl) T
        have hm : sub b P.1 (eot b n P.1) ∉ ownW := fun z => hO ⟨_, z, hT⟩
        refine r_nm58 (Q := Q) Tu hT (by rw [hu, rI_wI, if_pos ⟨rfl, rfl⟩]) (fun g s' F' R' e39 => h1 _ ⟨hT, g, hm⟩ s' (fr_tr Fu F') R' e39) (fun g s' F' X' => h0 _ (Or.inl ⟨_, hT, g, rfl⟩) s' (fr_tr (fr_mo Fu fun a j q => xls_r q) F') X') (n - P.1) P.1 0 u (by omega) (Nat.le_refl _) (by omega) fr_rf (by rw [hu, rI_wI, if_neg (by omega)]; exact N5.2.1) (by rw [hu, rI_wI, if_neg (by omega)]; exact N5.1.1) (by rw [Nat.sub_self]; decide) (eot_run q k1 (by decide)) rfl
  · rw [if_neg q]
    exact r_letter_m (no0 (no (fun l y => absurd (tok_word.1 y).1 q)))
