-- what the class sees
def wlS (t : Nat) (l : List Nat) : Prop := snB t = true ∧ strB t = l.map nI ∧ l.length < 1600
theorem tok_sign {b : Nat → Nat} {n c : Nat} {P : pT} : tok b n P = tSg c ↔ P.1 < n ∧ kd (b P.1) = 3 ∧ b P.1 = c := by
  unfold tok
  by_cases h1 : n ≤ P.1
  · rw [if_pos h1]
    exact ⟨fun h => (by cases h), fun h => by omega⟩
  · rw [if_neg h1]
    by_cases h2 : kd (b P.1) = 3
    · rw [if_pos h2]
      refine ⟨fun h => ?_, fun h => by rw [h.2.2]⟩
      have h := List.head_eq_of_cons_eq (Prod.mk.inj h).2
      exact ⟨by omega, h2, h⟩
    · rw [if_neg h2]
      refine ⟨fun h => ?_, fun h => absurd h.2.1 h2⟩
      split at h
      · cases h
      · split at h <;> cases h
theorem tok_word {b : Nat → Nat} {n : Nat} {P : pT} {l : List Nat} : tok b n P = tWd l ↔ P.1 < n ∧ kd (b P.1) = 1 ∧ P.2 = false ∧ sub b P.1 (eot b n P.1) = l := by
  unfold tok
  by_cases h1 : n ≤ P.1
  · rw [if_pos h1]
    exact ⟨fun h => (by cases h), fun h => by omega⟩
  · rw [if_neg h1]
    by_cases h2 : kd (b P.1) = 3
    · rw [if_pos h2]
      exact ⟨fun h => (by cases h), fun h => by omega⟩
    · rw [if_neg h2]
      by_cases h3 : P.2 = true
      · rw [if_pos h3]
        exact ⟨fun h => (by cases h), fun h => by rw [h3] at h; cases h.2.2.1⟩
      · rw [if_neg h3]
        by_cases h4 : kd (b P.1) = 1
        · rw [if_pos h4]
          refine ⟨fun h => ?_, fun h => by rw [h.2.2.2]⟩
          have h := (Prod.mk.inj h).2
          exact ⟨by omega, h4, Bool.eq_false_iff.2 h3, h⟩
        · rw [if_neg h4]
          exact ⟨fun h => (by cases h), fun h => absurd h.2.1 h4⟩
theorem tok_num {b : Nat → Nat} {n : Nat} {P : pT} {l : List Nat} : tok b n P = tNm l ↔ P.1 < n ∧ kd (b P.1) = 2 ∧ P.2 = false ∧ sub b P.1 (eot b n P.1) = l := by
  have hk := kd_le (b P.1)
  unfold tok
  by_cases h1 : n ≤ P.1
  · rw [if_pos h1]
    exact ⟨fun h => (by cases h), fun h => by omega⟩
  · rw [if_neg h1]
    by_cases h2 : kd (b P.1) = 3
    · rw [if_pos h2]
      exact ⟨fun h => (by cases h), fun h => by omega⟩
    · rw [if_neg h2]
      by_cases h3 : P.2 = true
      · rw [if_pos h3]
        exact ⟨fun h => (by cases h), fun h => by rw [h3] at h; cases h.2.2.1⟩
      · rw [if_neg h3]
        by_cases h4 : kd (b P.1) = 1
        · rw [if_pos h4]
          exact ⟨fun h => (by cases h), fun h => by omega⟩
        · rw [if_neg h4]
          refine ⟨fun h => ?_, fun h => by rw [h.2.2.2]⟩
          have h := (Prod.mk.inj h).2
          exact ⟨by omega, by omega, Bool.eq_false_iff.2 h3, h⟩
theorem tok_fin {b : Nat → Nat} {n : Nat} {P : pT} : tok b n P = tFin ↔ n ≤ P.1 := by
  unfold tok
  by_cases h1 : n ≤ P.1
  · rw [if_pos h1]
    exact ⟨fun _ => h1, fun _ => rfl⟩
  · rw [if_neg h1]
    refine ⟨fun h => ?_, fun h => absurd h h1⟩
    split at h
    · cases h
    · split at h
      · cases h
      · split at h <;> cases h
theorem cs_kind {s : sT} {b : Nat → Nat} {n : Nat} {P : pT} (C : CS s b n P) : ((rI s 4 1 = 0) ↔ tok b n P = tFin) ∧ ((rI s 4 1 = (3 : Int32)) ↔ ∃ c, tok b n P = tSg c) ∧ ((rI s 4 1 = (1 : Int32)) ↔ ∃ l, tok b n P = tWd l) ∧ ((rI s 4 1 = (2 : Int32)) ↔ ∃ l, tok b n P = tNm l) := by
  obtain ⟨c1, c2, c3, c4⟩ := C
  rcases Nat.lt_or_ge P.1 n with h | h
  · obtain ⟨c5, c6, c7⟩ := c4 h
    have hk := kd_le (b P.1)
    refine ⟨⟨fun q => ?_, fun q => ?_⟩, ⟨fun q => ⟨_, tok_sign.2 ⟨h, ?_, rfl⟩⟩, ?_⟩, ⟨fun q => ⟨_, tok_word.2 ⟨h, ?_, ?_, rfl⟩⟩, ?_⟩, ⟨fun q => ⟨_, tok_num.2 ⟨h, ?_, ?_, rfl⟩⟩, ?_⟩⟩
    · rw [c7, show (0 : Int32) = nI 0 from rfl, nI_eq (by split <;> (try split) <;> omega) (by decide)] at q
      split at q
      · omega
      · split at q <;> omega
    · have := tok_fin.1 q
      omega
    · rw [c7, show (3 : Int32) = nI 3 from rfl, nI_eq (by split <;> (try split) <;> omega) (by decide)] at q
      split at q
      · assumption
      · split at q <;> omega
    · rintro ⟨c, q⟩
      rw [c7, if_pos (tok_sign.1 q).2.1]
      rfl
    · rw [c7, show (1 : Int32) = nI 1 from rfl, nI_eq (by split <;> (try split) <;> omega) (by decide)] at q
      split at q
      · omega
      · split at q <;> omega
    · rw [c7, show (1 : Int32) = nI 1 from rfl, nI_eq (by split <;> (try split) <;> omega) (by decide)] at q
      cases e : P.2 with
      | false => rfl
      | true =>
        rw [e, if_pos rfl] at q
        split at q <;> omega
    · rintro ⟨c, q⟩
      obtain ⟨q1, q2, q3, q4⟩ := tok_word.1 q
      rw [c7, if_neg (by omega), q3, if_neg (by decide), q2]
      rfl
    · rw [c7, show (2 : Int32) = nI 2 from rfl, nI_eq (by split <;> (try split) <;> omega) (by decide)] at q
      split at q
      · omega
      · split at q <;> omega
    · rw [c7, show (2 : Int32) = nI 2 from rfl, nI_eq (by split <;> (try split) <;> omega) (by decide)] at q
      cases e : P.2 with
      | false => rfl
      | true =>
        rw [e, if_pos rfl] at q
        split at q <;> omega
    · rintro ⟨c, q⟩
      obtain ⟨q1, q2, q3, q4⟩ := tok_num.1 q
      rw [c7, if_neg (by omega), q3, if_neg (by decide), q2]
      rfl
  · obtain ⟨c5, c6⟩ := c3 (by omega)
    rw [c5]
    refine ⟨⟨fun _ => tok_fin.2 h, fun _ => rfl⟩, ⟨fun q => (by cases q), ?_⟩, ⟨fun q => (by cases q), ?_⟩, ⟨fun q => (by cases q), ?_⟩⟩
    · rintro ⟨c, q⟩; have := (tok_sign.1 q).1; omega
    · rintro ⟨c, q⟩; have := (tok_word.1 q).1; omega
    · rintro ⟨c, q⟩; have := (tok_num.1 q).1; omega
theorem c_sign {b : Nat → Nat} {n c : Nat} {P : pT} {Q : Int32 → sT → Prop} {s : sT} (hc : c < 256) (T : TC s b n) (C : CS s b n P) (h1 : tok b n P = tSg c → Q 1 s) (h0 : tok b n P ≠ tSg c → Q 0 s) : c8_isSign (nI c) Q s := by
  obtain ⟨-, k2, -, -⟩ := cs_kind C
  have hn := T.1
  refine e_c8_isSign (br_c (fun q => ?_) (fun q => h0 (fun y => q (k2.2 ⟨c, y⟩))))
  obtain ⟨d, hd⟩ := k2.1 q
  obtain ⟨d1, d2, d3⟩ := tok_sign.1 hd
  have hb := T.2.2 P.1 (by omega)
  refine br_t (by rw [C.2.1, T.2.1]; exact nI_lt d1 (by omega)) ⟨by rw [C.2.1]; exact vp_in_nI (by omega) (by decide), ?_⟩
  rw [C.2.1, nI_clamp (by omega), hb.2, nI_eq (by omega) (by omega)]
  refine br_c (fun y => h1 (by rw [hd, ← d3, y])) (fun y => h0 (fun z => ?_))
  exact y (tok_sign.1 z).2.2
theorem c_len {t : Nat} {l : List Nat} {Q : Int32 → sT → Prop} {s : sT} (w : wlS t l) (h : Q (nI l.length) s) : cS_length t Q s := by
  obtain ⟨w1, w2, w3⟩ := w
  refine ⟨w1, ?_⟩
  rw [w2, List.length_map]
  exact h
theorem c_chr {t k : Nat} {l : List Nat} {Q : Int32 → sT → Prop} {s : sT} (w : wlS t l) (hk : k < l.length) (h : Q (nI l[k]) s) : cS_charAt t (nI k) Q s := by
  obtain ⟨w1, w2, w3⟩ := w
  have hl : (strB t).length = l.length := by rw [w2, List.length_map]
  refine ⟨w1, by rw [hl]; exact vp_in_nI hk (by omega), ?_⟩
  rw [nI_clamp (by omega), w2, List.getD_eq_getElem?_getD, List.getElem?_eq_getElem (by rw [List.length_map]; exact hk), List.getElem_map]
  exact h
/-- the letters of a row of letters from f on stand in the token -/
def agr (b : Nat → Nat) (i e f : Nat) (l : List Nat) : Prop := ∀ j, i + j < e → ∃ h : f + j < l.length, b (i + j) = l[f + j]
theorem c_letters {f : Nat} {b : Nat → Nat} {n : Nat} {P : pT} {l : List Nat} {Q : Int32 → sT → Prop} {s : sT} (w : wlS 1000006 l) (hl : ∀ k (h : k < l.length), l[k] < 256) (hf : f ≤ l.length) (T : TC s b n) (C : CS s b n P) (hP : P.1 < n) (h1 : agr b P.1 (eot b n P.1) f l → Q 1 s) (h0 : ¬ agr b P.1 (eot b n P.1) f l → Q 0 s) : ∀ m k, m + (P.1 + k) = eot b n P.1 → (∀ j, j < k → P.1 + j < eot b n P.1 → ∃ h : f + j < l.length, b (P.1 + j) = l[f + j]) → c8_isOwnWordFrom_2 (nI f) (nI k) Q s := by
  have hn := T.1
  have he := eot_le (b := b) hP
  have hg := eot_gt (b := b) (n := n) (i := P.1)
  have hll := w.2.2
  obtain ⟨-, c6, -⟩ := C.2.2.2 hP
  intro m
  induction m with
  | zero =>
    intro k e g
    have hk : eot b n P.1 ≤ P.1 + k := by omega
    have hA : agr b P.1 (eot b n P.1) f l := fun j hj => g j (by omega) hj
    exact e_c8_isOwnWordFrom_2 (br_f (by rw [C.2.1, c6, nI_add]; exact nI_nlt (by omega) (by omega)) (h1 hA))
  | succ m ih =>
    intro k e g
    refine e_c8_isOwnWordFrom_2 (br_t (by rw [C.2.1, c6, nI_add]; exact nI_lt (by omega) (by omega)) (c_len w ?_))
    rw [nI_add, nI_ltI (by omega) (by omega), C.2.1, nI_add, nI_clamp (by omega), (T.2.2 (P.1 + k) (by omega)).2, nI_1]
    have hb := (T.2.2 (P.1 + k) (by omega)).1
    refine br_c (fun q => ⟨vp_in_nI (by omega) (by decide), c_chr w q ?_⟩) (fun q => h0 (fun A => q (A k (by omega)).1))
    have hlk := hl _ q
    rw [nI_eq (by omega) (by omega)]
    refine br_c (fun q2 => ih (k + 1) (by omega) (fun j j1 j2 => ?_)) (fun q2 => h0 (fun A => q2 (A k (by omega)).2))
    by_cases y : j = k
    · subst y
      exact ⟨q, q2⟩
    · exact g j (by omega) j2
theorem agr_sub {b : Nat → Nat} {i e : Nat} {l : List Nat} (h : e - i = l.length) : agr b i e 0 l ↔ sub b i e = l := by
  refine ⟨fun A => sub_eq h (fun k hk => ?_), fun q j hj => ?_⟩
  · obtain ⟨h1, h2⟩ := A k (by omega)
    rw [h2]
    congr 1
    omega
  · refine ⟨by omega, ?_⟩
    subst q
    rw [sub_at]
    congr 1
    omega
theorem c_wordL {t : Nat} {b : Nat → Nat} {n : Nat} {P : pT} {l : List Nat} {Q : Int32 → sT → Prop} {s : sT} (w : wlS t l) (hl : ∀ k (h : k < l.length), l[k] < 256) (T : TC s b n) (C : CS s b n P) (hP : P.1 < n) (hlen : eot b n P.1 - P.1 = l.length) (h1 : sub b P.1 (eot b n P.1) = l → Q 1 s) (h0 : ¬ sub b P.1 (eot b n P.1) = l → Q 0 s) : ∀ m k, m + k = l.length → (∀ j (h : j < l.length), j < k → b (P.1 + j) = l[j]) → c8_isWord_28 t (nI k) Q s := by
  have hn := T.1
  have he := eot_le (b := b) hP
  have hll := w.2.2
  intro m
  induction m with
  | zero =>
    intro k e g
    exact e_c8_isWord_28 (c_len w (br_f (nI_nlt (by omega) (by omega)) (h1 (sub_eq hlen (fun j hj => g j hj (by omega))))))
  | succ m ih =>
    intro k e g
    have hk : k < l.length := by omega
    refine e_c8_isWord_28 (c_len w (br_t (nI_lt (by omega) (by omega)) ?_))
    rw [C.2.1, nI_add, nI_clamp (by omega), (T.2.2 (P.1 + k) (by omega)).2, nI_1]
    have hb := (T.2.2 (P.1 + k) (by omega)).1
    have hlk := hl k hk
    refine ⟨vp_in_nI (by omega) (by decide), c_chr w hk ?_⟩
    rw [nI_eq (by omega) (by omega)]
    refine br_c (fun q => ih (k + 1) (by omega) (fun j hj jk => ?_)) (fun q => h0 (fun y => q ?_))
    · by_cases y : j = k
      · subst y
        exact q
      · exact g j hj (by omega)
    · have h2 := List.getElem_of_eq y (i := k) (by rw [y]; exact hk)
      rw [sub_at] at h2
      exact h2
theorem c_word {t : Nat} {b : Nat → Nat} {n : Nat} {P : pT} {l : List Nat} {Q : Int32 → sT → Prop} {s : sT} (w : wlS t l) (hl : ∀ k (h : k < l.length), l[k] < 256) (T : TC s b n) (C : CS s b n P) (h1 : tok b n P = tWd l → Q 1 s) (h0 : tok b n P ≠ tWd l → Q 0 s) : c8_isWord t Q s := by
  obtain ⟨-, -, k1, -⟩ := cs_kind C
  have hn := T.1
  have hll := w.2.2
  refine e_c8_isWord (br_c (fun q => ?_) (fun q => h0 (fun y => q (k1.2 ⟨l, y⟩))))
  obtain ⟨d, hd⟩ := k1.1 q
  obtain ⟨d1, d2, d3, d4⟩ := tok_word.1 hd
  have he := eot_le (b := b) d1
  have hg := eot_gt (b := b) (n := n) (i := P.1)
  obtain ⟨-, c6, -⟩ := C.2.2.2 d1
  refine c_len w ?_
  rw [C.2.1, c6, pk_sub (by omega), nI_eq (by omega) (by omega)]
  refine br_c (fun q2 => ?_) (fun q2 => h0 (fun y => ?_))
  · have eq : tok b n P = tWd l ↔ sub b P.1 (eot b n P.1) = l := by
      rw [tok_word]
      exact ⟨fun y => y.2.2.2, fun y => ⟨d1, d2, d3, y⟩⟩
    exact c_wordL w hl T C d1 q2 (fun A => h1 (eq.2 A)) (fun A => h0 (fun y => A (eq.1 y))) l.length 0 (Nat.add_zero _) (fun j _ hj => by omega)
  · have := congrArg List.length (tok_word.1 y).2.2.2
    rw [sub_len] at this
    exact q2 this
/-- a fault, in the class -/
theorem c_fail {v : Nat} {b : Nat → Nat} {n : Nat} {P : pT} {Q : Int32 → sT → Prop} {s : sT} (C : CS s b n P) (h : ∀ s', Fr X45 s s' → rI s' 4 4 = nI v → rI s' 4 5 = nI P.1 → Q 0 s') : c8_fail (nI v) Q s := by
  refine e_c8_fail (fun u hu w hw => h w (by rw [hw, hu]; exact fr_wI (fr_wI fr_rf rfl) rfl) ?_ ?_)
  · rw [hw, rI_wI, if_neg (by omega), hu, rI_wI, if_pos ⟨rfl, rfl⟩]
  · rw [hw, rI_wI, if_pos ⟨rfl, rfl⟩, hu, rI_wI, if_neg (by omega)]
    exact C.2.1
theorem c_takeSign {c : Nat} {b : Nat → Nat} {n : Nat} {P : pT} {Q : Int32 → sT → Prop} {s : sT} (hc : c < 256) (T : TC s b n) (C : CS s b n P) (h1 : tok b n P = tSg c → ∀ s', Fr X4 s s' → CS s' b n (adv b n P) → Q 1 s') (h0 : tok b n P ≠ tSg c → ∀ s', Fr X45 s s' → rI s' 4 4 = nI 1 → rI s' 4 5 = nI P.1 → Q 0 s') : c8_takeSign (nI c) Q s := by
  refine e_c8_takeSign (c_sign hc T C (fun q => yes1 ?_) (fun q => no0 (c_fail (v := 1) C (fun s' F e1 e2 => ⟨Or.inl rfl, h0 q s' F e1 e2⟩))))
  exact w_adv T C (tok_sign.1 q).1 (by rw [q]; exact fun y => by cases y) (h1 q)
/-- what digits tell -/
def nmV : List Nat → Nat → Nat
  | [], a => a
  | c :: r, a => nmV r (a * 10 + (c - 48))
theorem nmV_at {b : Nat → Nat} {e : Nat} : ∀ m i a, m + i = e → nmV (sub b i e) a = if i < e then nmV (sub b (i + 1) e) (a * 10 + (b i - 48)) else a
  | 0, i, a, h => by
    have : i = e := by omega
    subst this
    rw [if_neg (by omega)]
    unfold sub
    rw [Nat.sub_self]
    rfl
  | m + 1, i, a, h => by
    rw [if_pos (by omega)]
    have : sub b i e = b i :: sub b (i + 1) e := by
      unfold sub
      rw [show e - i = (e - (i + 1)) + 1 by omega, List.range_succ_eq_map, List.map_cons, List.map_map]
      congr 1
      apply List.map_congr_left
      intro k _
      show b (i + (k + 1)) = b (i + 1 + k)
      congr 1
      omega
    rw [this]
    rfl
theorem dig_of {c : Nat} (h : kd c = 2) : 48 ≤ c ∧ c ≤ 57 := by
  unfold kd at h
  split at h
  · cases h
  · split at h
    · assumption
    · cases h
theorem let_of {c : Nat} (h : kd c = 1) : 97 ≤ c ∧ c ≤ 122 := by
  unfold kd at h
  split at h
  · assumption
  · split at h <;> cases h
theorem c_seeNum {b : Nat → Nat} {n : Nat} {P : pT} {Q : Int32 → sT → Prop} {s : sT} (T : TC s b n) (C : CS s b n P) (h1 : ∀ l, tok b n P = tNm l → l.length ≤ 4 → nmV l 0 < 10000 → Q (nI (nmV l 0)) s) (h2 : ∀ l, tok b n P = tNm l → 4 < l.length → ∀ s', Fr X45 s s' → CS s' b n P → rI s' 4 4 = nI 1 → rI s' 4 5 = nI (P.1 + 4) → Q (-1) s') (h0 : (∀ l, tok b n P ≠ tNm l) → ∀ s', Fr X45 s s' → rI s' 4 4 = nI 1 → rI s' 4 5 = nI P.1 → Q (-1) s') : c8_seeNumber Q s := by
  obtain ⟨-, -, -, k2⟩ := cs_kind C
  have hn := T.1
  refine e_c8_seeNumber (br_c (fun q => ?_) (fun q => c_fail (v := 1) C (fun s' F e1 e2 => h0 (fun l y => q (k2.2 ⟨l, y⟩)) s' F e1 e2)))
  obtain ⟨d, hd⟩ := k2.1 q
  obtain ⟨d1, d2, d3, d4⟩ := tok_num.1 hd
  have he := eot_le (b := b) d1
  have hg := eot_gt (b := b) (n := n) (i := P.1)
  obtain ⟨-, c6, -⟩ := C.2.2.2 d1
  have hlen : d.length = eot b n P.1 - P.1 := by rw [← d4, sub_len]
  rw [C.2.1, c6, pk_sub (by omega), show (4 : Int32) = nI 4 from rfl, nI_ltI (by decide) (by omega)]
  refine br_c (fun q2 => e_c8_failAt (fun u hu v hv => ?_)) (fun q2 x hx => ?_)
  · have Fv : Fr X45 s v := by rw [hv, hu]; exact fr_wI (fr_wI fr_rf rfl) rfl
    refine h2 d hd (by omega) v Fv ?_ ?_ ?_
    · refine CS_fr (X := fun a j => Nat.beq a 4 && Nat.ble 4 j) (by rw [hv, hu]; exact fr_wI (fr_wI fr_rf rfl) rfl) (fun j j1 j2 => ?_) C
      rw [Bool.eq_false_iff]
      intro y
      simp only [Bool.and_eq_true, Nat.beq_eq, Nat.ble_eq] at y
      omega
    · rw [hv, rI_wI, if_neg (by omega), hu, rI_wI, if_pos ⟨rfl, rfl⟩]
      rfl
    · rw [hv, rI_wI, if_pos ⟨rfl, rfl⟩, nI_add]
  · rw [hx]
    have main : ∀ m i a, m + i = eot b n P.1 → P.1 ≤ i → a < 10 ^ (i - P.1) → nmV (sub b i (eot b n P.1)) a = nmV d 0 → c8_seeNumber_49 (nI a) (nI i) Q s := by
      intro m
      induction m with
      | zero =>
        intro i a e hi ha hv
        have e : i = eot b n P.1 := by omega
        rw [nmV_at 0 i a (by omega), if_neg (by omega)] at hv
        have hp : 10 ^ (i - P.1) ≤ 10 ^ 4 := Nat.pow_le_pow_right (by decide) (by omega)
        refine e_c8_seeNumber_49 (br_f (by rw [c6]; exact nI_nlt (by omega) (by omega)) ?_)
        rw [hv]
        exact h1 d hd (by omega) (by omega)
      | succ m ih =>
        intro i a e hi ha hv
        have hb := T.2.2 i (by omega)
        have hdg := dig_of ((eot_in (n := n) (by rw [d2]; decide) hi (by omega)).trans d2)
        rw [nmV_at (m + 1) i a (by omega), if_pos (by omega)] at hv
        have hp : 10 ^ (i - P.1) ≤ 10 ^ 4 := Nat.pow_le_pow_right (by decide) (by omega)
        refine e_c8_seeNumber_49 (br_t (by rw [c6]; exact nI_lt (by omega) (by omega)) ⟨vp_in_nI (by omega) (by decide), fun y hy => ?_⟩)
        rw [nI_clamp (by omega), hb.2, show (10 : Int32) = nI 10 from rfl, pk_mul, nI_add, show (48 : Int32) = nI 48 from rfl, pk_sub (by omega)] at hy
        rw [hy, nI_1, show a * 10 + b i - 48 = a * 10 + (b i - 48) by omega]
        refine ih (i + 1) _ (by omega) (by omega) ?_ hv
        rw [show i + 1 - P.1 = (i - P.1) + 1 by omega, Nat.pow_succ]
        omega
    exact main (eot b n P.1 - P.1) P.1 0 (by omega) (Nat.le_refl _) (by rw [Nat.sub_self]; decide) (by rw [d4])
