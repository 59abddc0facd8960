-- what the reference sees
def TR (s : sT) (b : Nat → Nat) (n : Nat) : Prop := n ≤ 1600 ∧ rI s 162 3 = nI n ∧ tpC s 163 b
def RLx (s : sT) (b : Nat → Nat) (n : Nat) (P : pT) : Prop := rI s 162 5 = 0 ∧ P.1 ≤ n ∧ (∃ r, r ≤ n ∧ rI s 162 2 = nI r ∧ skp b n r = P.1) ∧ ∃ c, c ≤ P.1 + 1 ∧ rI s 162 4 = cV c ∧ (P.2 = true ↔ c = P.1 + 1)
def X2R (a j : Nat) : Bool := Nat.beq a 162 && Nat.beq j 2
/-- what the reading of words and numbers writes in the reference -/
def XLR (a j : Nat) : Bool := Nat.beq a 162 && (Nat.beq j 2 || (Nat.beq j 4 || (Nat.beq j 5 || (Nat.beq j 6 || (Nat.beq j 10 || Nat.beq j 39)))))
theorem xlr_2 {a j : Nat} (h : X2R a j = true) : XLR a j = true := by
  unfold X2R at h
  unfold XLR
  simp only [Bool.and_eq_true, Bool.or_eq_true, Nat.beq_eq] at *
  omega
/-- .. when no fault comes -/
def XLS (a j : Nat) : Bool := Nat.beq a 162 && (Nat.beq j 2 || (Nat.beq j 4 || (Nat.beq j 10 || Nat.beq j 39)))
theorem xls_2 {a j : Nat} (h : X2R a j = true) : XLS a j = true := by
  unfold X2R at h
  unfold XLS
  simp only [Bool.and_eq_true, Bool.or_eq_true, Nat.beq_eq] at *
  omega
theorem xls_r {a j : Nat} (h : XLS a j = true) : XLR a j = true := by
  unfold XLS at h
  unfold XLR
  simp only [Bool.and_eq_true, Bool.or_eq_true, Nat.beq_eq] at *
  omega
theorem TR_fr {X : Nat → Nat → Bool} {s t : sT} {b : Nat → Nat} {n : Nat} (F : Fr X s t) (h2 : X 162 3 = false) (h3 : ∀ j, X 163 j = false) (T : TR s b n) : TR t b n := by
  obtain ⟨t1, t2, t3⟩ := T
  refine ⟨t1, by rw [F.1 _ _ h2]; exact t2, fun k hk => ?_⟩
  rw [F.1 _ _ (h3 _)]
  exact t3 k hk
theorem RL_fr {X : Nat → Nat → Bool} {s t : sT} {b : Nat → Nat} {n : Nat} {P : pT} (F : Fr X s t) (h2 : X 162 2 = false) (h4 : X 162 4 = false) (h5 : X 162 5 = false) (R : RLx s b n P) : RLx t b n P := by
  obtain ⟨r1, r2, ⟨r, r3, r4, r5⟩, c, r6, r7, r8⟩ := R
  exact ⟨by rw [F.1 _ _ h5]; exact r1, r2, ⟨r, r3, by rw [F.1 _ _ h2]; exact r4, r5⟩, c, r6, by rw [F.1 _ _ h4]; exact r7, r8⟩
/-- the state at which a place stands behind blanks -/
def RN (s : sT) (b : Nat → Nat) (n : Nat) (P : pT) : Prop := RLx s b n P ∧ rI s 162 2 = nI P.1 ∧ (P.1 < n → isBl (b P.1) = false)
def lkv (b : Nat → Nat) (n : Nat) (P : pT) : Int32 := if P.1 < n then nI (b P.1) else -1
theorem r_look {b : Nat → Nat} {n : Nat} {P : pT} {Q : Int32 → sT → Prop} {s0 : sT} (T : TR s0 b n) (R0 : RLx s0 b n P) (h : ∀ s', Fr X2R s0 s' → RN s' b n P → Q (lkv b n P) s') : c12_look Q s0 := by
  have hn := T.1
  have main : ∀ m r s, n - r = m → r ≤ n → Fr X2R s0 s → rI s 162 2 = nI r → skp b n r = P.1 → c12_look Q s := by
    intro m
    induction m with
    | zero =>
      intro r s e hr F c2 sk
      have hrn : r = n := by omega
      subst hrn
      rw [skp_e (by omega)] at sk
      have R : RLx s b r P := by
        obtain ⟨r1, r2, r3, c, r6, r7, r8⟩ := R0
        exact ⟨by rw [F.1 _ _ rfl]; exact r1, r2, ⟨r, hr, c2, by rw [skp_e (by omega)]; exact sk⟩, c, r6, by rw [F.1 _ _ rfl]; exact r7, r8⟩
      have hlt : ¬ rI s 162 2 < rI s 162 3 := by rw [c2, F.1 162 3 rfl, T.2.1]; exact nI_nlt (Nat.le_refl _) (by omega)
      have fin' := h s F ⟨R, by rw [c2, sk], fun y => by omega⟩
      unfold lkv at fin'
      rw [if_neg (by omega)] at fin'
      exact e_c12_look (br_f hlt (br_f hlt fin'))
    | succ m ih =>
      intro r s e hr F c2 sk
      have hb := T.2.2 r (by omega)
      have hlt : rI s 162 2 < rI s 162 3 := by rw [c2, F.1 162 3 rfl, T.2.1]; exact nI_lt (by omega) (by omega)
      have hv : vp_in (rI s 162 2) 1600 := by rw [c2]; exact vp_in_nI (by omega) (by decide)
      have go : isBl (b r) = true → ∀ u : sT, u = wI s 162 2 (rI s 162 2 + (1 : Int32)) → c12_look Q u := fun q u hu => by
        rw [c2, nI_1] at hu
        exact ih (r + 1) u (by omega) (by omega) (by rw [hu]; exact fr_wI F rfl) (by rw [hu, rI_wI, if_pos ⟨rfl, rfl⟩]) (by rw [← skp_s (by omega) q]; exact sk)
      have val : rI s 163 (rI s 162 2).toNatClampNeg = nI (b r) := by rw [c2, nI_clamp (by omega), F.1 163 _ rfl, hb.2]
      refine e_c12_look (br_t hlt ⟨hv, ?_⟩)
      rw [val, show (10 : Int32) = nI 10 from rfl, show (32 : Int32) = nI 32 from rfl, nI_eq (by omega) (by decide), nI_eq (by omega) (by decide)]
      refine br_c (fun q => go (by rw [q]; rfl)) (fun q => ⟨hv, br_c (fun q2 => go (by rw [q2]; rfl)) (fun q2 => br_t hlt ⟨hv, ?_⟩)⟩)
      have hbl : isBl (b r) = false := by
        unfold isBl
        rw [Bool.eq_false_iff]
        intro y
        rw [Bool.or_eq_true, Nat.beq_eq, Nat.beq_eq] at y
        omega
      rw [skp_e (fun y => by rw [hbl] at y; cases y.2)] at sk
      have R : RLx s b n P := by
        obtain ⟨r1, r2, r3, c, r6, r7, r8⟩ := R0
        exact ⟨by rw [F.1 _ _ rfl]; exact r1, r2, ⟨r, hr, c2, by rw [skp_id (fun _ => hbl)]; exact sk⟩, c, r6, by rw [F.1 _ _ rfl]; exact r7, r8⟩
      have fin' := h s F ⟨R, by rw [c2, sk], fun _ => by rw [← sk]; exact hbl⟩
      unfold lkv at fin'
      rw [if_pos (by omega), ← sk] at fin'
      exact fin'
  obtain ⟨-, -, ⟨r, r3, r4, r5⟩, -⟩ := R0
  exact main (n - r) r s0 rfl r3 fr_rf r4 r5
theorem lkv_sign {b : Nat → Nat} {n c : Nat} {P : pT} {s : sT} (T : TR s b n) (hc : c < 256) (h3 : kd c = 3) : lkv b n P = nI c ↔ tok b n P = tSg c := by
  have hn := T.1
  unfold lkv
  rw [tok_sign]
  by_cases q : P.1 < n
  · have hb := T.2.2 P.1 (by omega)
    rw [if_pos q, nI_eq (by omega) (by omega)]
    exact ⟨fun y => ⟨q, by rw [y]; exact h3, y⟩, fun y => y.2.2⟩
  · rw [if_neg q]
    exact ⟨fun y => absurd y.symm (nI_nm (by omega)), fun y => absurd y.1 q⟩
theorem r_letter {c : Nat} {Q : Int32 → sT → Prop} {s : sT} (hc : c < 256) (h1 : kd c = 1 → Q 1 s) (h0 : kd c ≠ 1 → Q 0 s) : c12_isLetter (nI c) Q s := by
  refine e_c12_isLetter ?_
  rw [show (97 : Int32) = nI 97 from rfl, show (122 : Int32) = nI 122 from rfl, nI_ltI (by omega) (by decide), nI_ltI (by decide) (by omega)]
  refine br_c (fun q => h0 ?_) (fun q => br_c (fun q2 => h0 ?_) (fun q2 => h1 ?_))
  · unfold kd
    rw [if_neg (by omega)]
    split <;> decide
  · unfold kd
    rw [if_neg (by omega)]
    split <;> decide
  · unfold kd
    rw [if_pos (by omega)]
theorem r_letter_m {Q : Int32 → sT → Prop} {s : sT} (h0 : Q 0 s) : c12_isLetter (-1 : Int32) Q s := e_c12_isLetter (br_t (by decide) h0)
theorem r_digit {c : Nat} {Q : Int32 → sT → Prop} {s : sT} (hc : c < 256) (h1 : kd c = 2 → Q 1 s) (h0 : kd c ≠ 2 → Q 0 s) : c12_isDigit (nI c) Q s := by
  refine e_c12_isDigit ?_
  rw [show (48 : Int32) = nI 48 from rfl, show (57 : Int32) = nI 57 from rfl, nI_ltI (by omega) (by decide), nI_ltI (by decide) (by omega)]
  refine br_c (fun q => h0 ?_) (fun q => br_c (fun q2 => h0 ?_) (fun q2 => h1 ?_))
  · unfold kd
    rw [if_neg (by omega), if_neg (by omega)]
    decide
  · unfold kd
    by_cases y : 97 ≤ c ∧ c ≤ 122
    · rw [if_pos y]; decide
    · rw [if_neg y, if_neg (by omega)]; decide
  · unfold kd
    rw [if_neg (by omega), if_pos (by omega)]
theorem r_digit_m {Q : Int32 → sT → Prop} {s : sT} (h0 : Q 0 s) : c12_isDigit (-1 : Int32) Q s := e_c12_isDigit (br_t (by decide) h0)
/-- a word of the reference, letter by letter -/
def wlR (s : sT) (t : Nat) (l : List Nat) : Prop := LN t = l.length ∧ l.length < 100 ∧ (∀ k (h : k < l.length), l[k] < 256) ∧ ∀ k (h : k < l.length), rI s t k = nI l[k]
theorem wlR_fr {X : Nat → Nat → Bool} {s u : sT} {t : Nat} {l : List Nat} (F : Fr X s u) (hx : ∀ j, X t j = false) (w : wlR s t l) : wlR u t l := ⟨w.1, w.2.1, w.2.2.1, fun k hk => by rw [F.1 _ _ (hx k)]; exact w.2.2.2 k hk⟩
theorem r_here76 {t : Nat} {b : Nat → Nat} {n : Nat} {P : pT} {l : List Nat} {Q : Int32 → sT → Prop} {s : sT} (w : wlR s t l) (T : TR s b n) (c2 : rI s 162 2 = nI P.1) (he : P.1 + l.length ≤ n) (h1 : (∀ k (h : k < l.length), b (P.1 + k) = l[k]) → Q 1 s) (h0 : ¬ (∀ k (h : k < l.length), b (P.1 + k) = l[k]) → Q 0 s) : ∀ m k, k + m = l.length → (∀ j (h : j < l.length), j < k → b (P.1 + j) = l[j]) → c12_isHere_76 t (nI k) Q s := by
  have hn := T.1
  obtain ⟨w1, w2, w3, w4⟩ := w
  have wn : (Int32.ofNat (LN t)) = nI l.length := by rw [w1]; rfl
  intro m
  induction m with
  | zero =>
    intro k e g
    exact e_c12_isHere_76 (br_f (by rw [wn]; exact nI_nlt (by omega) (by omega)) (h1 (fun j hj => g j hj (by omega))))
  | succ m ih =>
    intro k e g
    have hkl : k < l.length := by omega
    have hb := T.2.2 (P.1 + k) (by omega)
    have hl := w3 k hkl
    refine e_c12_isHere_76 (br_t (by rw [wn]; exact nI_lt (by omega) (by omega)) ?_)
    rw [c2, nI_add, nI_clamp (by omega), nI_clamp (by omega), hb.2, w4 k hkl, nI_eq (by omega) (by omega), nI_1]
    refine ⟨vp_in_nI (by omega) (by decide), by rw [w1]; exact vp_in_nI hkl (by omega), br_c (fun q => ih (k + 1) (by omega) (fun j hj j2 => ?_)) (fun q => h0 (fun y => q (y k hkl)))⟩
    by_cases y : j = k
    · subst y; exact q
    · exact g j hj (by omega)
theorem r_here35 {t : Nat} {b : Nat → Nat} {n : Nat} {P : pT} {l : List Nat} {Q : Int32 → sT → Prop} {s : sT} (w : wlR s t l) (T : TR s b n) (c2 : rI s 162 2 = nI P.1) (hP : P.1 < n) (hk : kd (b P.1) = 1) (h1 : sub b P.1 (eot b n P.1) = l → Q 1 s) (h0 : sub b P.1 (eot b n P.1) ≠ l → Q 0 s) : ∀ m i, i + m = n → P.1 ≤ i → run b n 1 i = eot b n P.1 → c12_isHere_35 t (nI i) Q s := by
  have hn := T.1
  have wn : (Int32.ofNat (LN t)) = nI l.length := by rw [w.1]; rfl
  have w2 := w.2.1
  have done : ∀ i, P.1 ≤ i → i ≤ n → i = eot b n P.1 → ((nI i - rI s 162 2) = (Int32.ofNat (LN t)) → c12_isHere_76 t (0 : Int32) Q s) ∧ (¬ (nI i - rI s 162 2) = (Int32.ofNat (LN t)) → Q (0 : Int32) s) := by
    intro i hi hin hie
    rw [c2, wn, pk_sub hi, nI_eq (by omega) (by omega)]
    refine br_c (fun q => ?_) (fun q => h0 (fun y => ?_))
    · have eq : sub b P.1 (eot b n P.1) = l ↔ ∀ k (h : k < l.length), b (P.1 + k) = l[k] := by
        refine ⟨fun y k hk => ?_, fun y => sub_eq (by omega) y⟩
        subst y
        rw [sub_at]
      exact r_here76 w T c2 (by omega) (fun y => h1 (eq.2 y)) (fun y => h0 (fun z => y (eq.1 z))) l.length 0 (Nat.zero_add _) (fun j hj j2 => by omega)
    · have := congrArg List.length y
      rw [sub_len] at this
      omega
  intro m
  induction m with
  | zero =>
    intro i e hi hr
    rw [run_e (by omega)] at hr
    have hin : i = n := by omega
    exact e_c12_isHere_35 (br_f (by rw [T.2.1]; exact nI_nlt (by omega) (by omega)) (done i hi (by omega) hr))
  | succ m ih =>
    intro i e hi hr
    have hb := T.2.2 i (by omega)
    refine e_c12_isHere_35 (br_t (by rw [T.2.1]; exact nI_lt (by omega) (by omega)) ⟨vp_in_nI (by omega) (by decide), ?_⟩)
    rw [nI_clamp (by omega), hb.2]
    refine r_letter hb.1 (fun q => yes1 ?_) (fun q => no0 (done i hi (by omega) ?_))
    · rw [nI_1]
      exact ih (i + 1) (by omega) (by omega) (by rw [← run_s (by omega) q]; exact hr)
    · rw [run_e (fun y => q y.2)] at hr; exact hr
theorem eot_run {b : Nat → Nat} {n i k : Nat} (h : i < n) (hk : kd (b i) = k) (h3 : k ≠ 3) : run b n k i = eot b n i := by
  unfold eot
  rw [hk, if_neg h3, run_s h hk]
/-- is a word here -/
theorem r_here {t : Nat} {b : Nat → Nat} {n : Nat} {P : pT} {l : List Nat} {Q : Int32 → sT → Prop} {s : sT} (w : wlR s t l) (ht : t ≠ 162) (T : TR s b n) (R : RLx s b n P) (h1 : tok b n P = tWd l → ∀ s', Fr X2R s s' → RN s' b n P → Q 1 s') (h0 : tok b n P ≠ tWd l → ∀ s', Fr X2R s s' → RN s' b n P → Q 0 s') : c12_isHere t Q s := by
  have hn := T.1
  refine e_c12_isHere (br_t R.1 (r_look T R (fun s1 F1 N1 => ?_)))
  have T1 := TR_fr F1 rfl (fun _ => rfl) T
  have w1 := wlR_fr F1 (fun j => by
    unfold X2R
    rw [show Nat.beq t 162 = false from Bool.eq_false_iff.2 (fun y => ht (Nat.beq_eq.mp y))]
    rfl) w
  have no : (tok b n P ≠ tWd l) → Q 0 s1 := fun q => h0 q s1 F1 N1
  unfold lkv
  by_cases q : P.1 < n
  · rw [if_pos q]
    have hb := T.2.2 P.1 (by omega)
    refine r_letter hb.1 (fun k1 => yes1 ?_) (fun k1 => no0 (no (fun y => k1 (tok_word.1 y).2.1)))
    obtain ⟨N2, N3, N4⟩ := N1
    obtain ⟨-, -, -, c, c6, c7, c8⟩ := id N2
    have hc : cV c = nI P.1 ↔ P.2 = true := by
      rw [c8]
      refine ⟨fun y => ?_, fun y => by rw [y, cV_s]⟩
      have := congrArg Int32.toInt y
      rw [cV_i (by omega), nI_toInt (by omega)] at this
      omega
    rw [N3, c7]
    have hc2 : nI P.1 = cV c ↔ P.2 = true := ⟨fun y => hc.1 y.symm, fun y => (hc.2 y).symm⟩
    rw [hc2]
    refine br_c (fun y => no (fun z => ?_)) (fun y x hx => ?_)
    · have := (tok_word.1 z).2.2.1
      rw [y] at this
      cases this
    · have hp2 : P.2 = false := Bool.eq_false_iff.2 y
      rw [hx]
      exact r_here35 w1 T1 N3 q k1 (fun z => h1 (tok_word.2 ⟨q, k1, hp2, z⟩) s1 F1 ⟨N2, N3, N4⟩) (fun z => no (fun t => z (tok_word.1 t).2.2.2)) (n - P.1) P.1 (by omega) (Nat.le_refl _) (eot_run q k1 (by decide))
  · rw [if_neg q]
    exact r_letter_m (no0 (no (fun y => q (tok_word.1 y).1)))
theorem RL_adv {b : Nat → Nat} {n : Nat} {P : pT} {s : sT} {l : List Nat} (T : TR s b n) (hw : P.1 < n) (hk : kd (b P.1) ≠ 3) (c5 : rI s 162 5 = 0) (c2 : rI s 162 2 = nI (eot b n P.1)) (c4 : rI s 162 4 = nI (eot b n P.1)) : RLx s b n (adv b n P) := by
  have he := eot_le (b := b) hw
  refine ⟨c5, skp_le he, ⟨_, he, c2, rfl⟩, eot b n P.1 + 1, ?_, by rw [cV_s]; exact c4, ?_⟩
  · have := skp_ge (b := b) (n := n) (i := eot b n P.1)
    show eot b n P.1 + 1 ≤ skp b n (eot b n P.1) + 1
    omega
  · show decide (kd (b P.1) ≠ 3 ∧ skp b n (eot b n P.1) = eot b n P.1) = true ↔ eot b n P.1 + 1 = skp b n (eot b n P.1) + 1
    rw [decide_eq_true_eq]
    exact ⟨fun y => by rw [y.2], fun y => ⟨hk, by omega⟩⟩
theorem r_takes {t : Nat} {b : Nat → Nat} {n : Nat} {P : pT} {l : List Nat} {Q : Int32 → sT → Prop} {s : sT} (w : wlR s t l) (ht : t ≠ 162) (T : TR s b n) (R : RLx s b n P) (h1 : tok b n P = tWd l → ∀ s', Fr XLS s s' → RLx s' b n (adv b n P) → Q 1 s') (h0 : tok b n P ≠ tWd l → ∀ s', Fr X2R s s' → RN s' b n P → Q 0 s') : c12_takes t Q s := by
  have hn := T.1
  refine e_c12_takes (r_here w ht T R (fun q s1 F1 N1 => yes1 (fun u hu v hv => ?_)) (fun q s1 F1 N1 => no0 (h0 q s1 F1 N1)))
  obtain ⟨q1, q2, q3, q4⟩ := tok_word.1 q
  have he := eot_le (b := b) q1
  have hg := eot_gt (b := b) (n := n) (i := P.1)
  have hlen := congrArg List.length q4
  rw [sub_len] at hlen
  have wn : (Int32.ofNat (LN t)) = nI l.length := by rw [w.1]; rfl
  rw [N1.2.1, wn, nI_add, show P.1 + l.length = eot b n P.1 by omega] at hu
  have u2 : rI u 162 2 = nI (eot b n P.1) := by rw [hu, rI_wI, if_pos ⟨rfl, rfl⟩]
  rw [u2] at hv
  have Fv : Fr XLS s v := by rw [hv, hu]; exact fr_wI (fr_wI (fr_mo F1 fun a j q => xls_2 q) rfl) rfl
  refine h1 q v Fv (RL_adv (l := l) (TR_fr Fv rfl (fun _ => rfl) T) q1 (by rw [q2]; decide) ?_ ?_ ?_)
  · rw [hv, rI_wI, if_neg (by omega), hu, rI_wI, if_neg (by omega)]
    exact N1.1.1
  · rw [hv, rI_wI, if_neg (by omega)]; exact u2
  · rw [hv, rI_wI, if_pos ⟨rfl, rfl⟩]
/-- a fault, in the reference -/
def RX (s : sT) (f pl : Nat) : Prop := rI s 162 5 = nI f ∧ 1 ≤ f ∧ f ≤ 5 ∧ rI s 162 6 = nI pl
theorem r_fail {f pl : Nat} {Q : sT → Prop} {s : sT} (h5 : rI s 162 5 = 0) (hf : 1 ≤ f ∧ f ≤ 5) (h : ∀ s', Fr XLR s s' → RX s' f pl → Q s') : c12_fail (nI f) (nI pl) Q s :=
  e_c12_fail (br_t h5 (fun u hu v hv => h v (by rw [hv, hu]; exact fr_wI (fr_wI fr_rf rfl) rfl) ⟨by rw [hv, rI_wI, if_neg (by omega), hu, rI_wI, if_pos ⟨rfl, rfl⟩], hf.1, hf.2, by rw [hv, rI_wI, if_pos ⟨rfl, rfl⟩]⟩))
theorem RX_n0 {s : sT} {f pl : Nat} (h : RX s f pl) : ¬ rI s 162 5 = 0 := by
  rw [h.1]
  exact nI_ne0 (by have := h.2.1; omega) (by have := h.2.2.1; omega)
theorem r_asks {t : Nat} {b : Nat → Nat} {n : Nat} {P : pT} {l : List Nat} {Q : sT → Prop} {s : sT} (w : wlR s t l) (ht : t ≠ 162) (T : TR s b n) (R : RLx s b n P) (h1 : tok b n P = tWd l → ∀ s', Fr XLS s s' → RLx s' b n (adv b n P) → Q s') (h0 : tok b n P ≠ tWd l → ∀ s', Fr XLR s s' → RX s' 1 P.1 → Q s') : c12_asks t Q s := by
  refine e_c12_asks (br_t R.1 (r_takes w ht T R (fun q s1 F1 R1 => yes1 (h1 q s1 F1 R1)) (fun q s1 F1 N1 => no0 ?_)))
  rw [N1.2.1]
  exact r_fail (f := 1) N1.1.1 (by decide) (fun s2 F2 X2 => h0 q s2 (fr_tr (fr_mo F1 fun a j q => xlr_2 q) F2) X2)
theorem RL_sgn {b : Nat → Nat} {n : Nat} {P : pT} {s t : sT} (T : TR s b n) (N : RN s b n P) (hw : P.1 < n) (hk : kd (b P.1) = 3) (e : t = wI s 162 2 (nI (P.1 + 1))) : RLx t b n (adv b n P) := by
  have he : eot b n P.1 = P.1 + 1 := by unfold eot; rw [if_pos hk]
  obtain ⟨⟨r1, r2, r3, c, c6, c7, c8⟩, N3, N4⟩ := N
  have hg := skp_ge (b := b) (n := n) (i := P.1 + 1)
  refine ⟨by rw [e, rI_wI, if_neg (by omega)]; exact r1, ?_, ⟨P.1 + 1, by omega, by rw [e, rI_wI, if_pos ⟨rfl, rfl⟩], ?_⟩, c, ?_, by rw [e, rI_wI, if_neg (by omega)]; exact c7, ?_⟩
  · show skp b n (eot b n P.1) ≤ n
    rw [he]
    exact skp_le (by omega)
  · show skp b n (P.1 + 1) = skp b n (eot b n P.1)
    rw [he]
  · show c ≤ skp b n (eot b n P.1) + 1
    rw [he]
    omega
  · show decide (kd (b P.1) ≠ 3 ∧ skp b n (eot b n P.1) = eot b n P.1) = true ↔ c = skp b n (eot b n P.1) + 1
    rw [decide_eq_true_eq, he]
    exact ⟨fun y => absurd hk y.1, fun y => by omega⟩
theorem r_takesSign {c : Nat} {b : Nat → Nat} {n : Nat} {P : pT} {Q : Int32 → sT → Prop} {s : sT} (hc : c < 256) (h3 : kd c = 3) (T : TR s b n) (R : RLx s b n P) (h1 : tok b n P = tSg c → ∀ s', Fr X2R s s' → RLx s' b n (adv b n P) → rI s' 162 2 = nI (P.1 + 1) → Q 1 s') (h0 : tok b n P ≠ tSg c → ∀ s', Fr X2R s s' → RN s' b n P → Q 0 s') : c12_takesSign (nI c) Q s := by
  refine e_c12_takesSign (br_t R.1 (r_look T R (fun s1 F1 N1 => ?_)))
  rw [lkv_sign T hc h3]
  refine br_c (fun q u hu => ?_) (fun q => h0 q s1 F1 N1)
  rw [N1.2.1, nI_1] at hu
  obtain ⟨q1, q2, q3⟩ := tok_sign.1 q
  exact h1 q u (by rw [hu]; exact fr_wI F1 rfl) (RL_sgn (TR_fr F1 rfl (fun _ => rfl) T) N1 q1 q2 hu) (by rw [hu, rI_wI, if_pos ⟨rfl, rfl⟩])
theorem r_asksSign {c : Nat} {b : Nat → Nat} {n : Nat} {P : pT} {Q : sT → Prop} {s : sT} (hc : c < 256) (h3 : kd c = 3) (T : TR s b n) (R : RLx s b n P) (h1 : tok b n P = tSg c → ∀ s', Fr XLS s s' → RLx s' b n (adv b n P) → Q s') (h0 : tok b n P ≠ tSg c → ∀ s', Fr XLR s s' → RX s' 1 P.1 → Q s') : c12_asksSign (nI c) Q s := by
  refine e_c12_asksSign (br_t R.1 (r_takesSign hc h3 T R (fun q s1 F1 R1 _ => yes1 (h1 q s1 (fr_mo F1 fun a j q => xls_2 q) R1)) (fun q s1 F1 N1 => no0 ?_)))
  rw [N1.2.1]
  exact r_fail (f := 1) N1.1.1 (by decide) (fun s2 F2 X2 => h0 q s2 (fr_tr (fr_mo F1 fun a j q => xlr_2 q) F2) X2)
