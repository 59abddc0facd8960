-- a text in words, numbers, signs
def isBl (c : Nat) : Bool := Nat.beq c 10 || Nat.beq c 32
def kd (c : Nat) : Nat := if 97 ≤ c ∧ c ≤ 122 then 1 else if 48 ≤ c ∧ c ≤ 57 then 2 else 3
def skm (b : Nat → Nat) (n : Nat) : Nat → Nat → Nat
  | 0, i => i
  | m + 1, i => if i < n ∧ isBl (b i) = true then skm b n m (i + 1) else i
def skp (b : Nat → Nat) (n i : Nat) : Nat := skm b n (n - i) i
theorem skp_s {b : Nat → Nat} {n i : Nat} (h : i < n) (h2 : isBl (b i) = true) : skp b n i = skp b n (i + 1) := by
  unfold skp
  rw [show n - i = (n - (i + 1)) + 1 by omega, skm, if_pos ⟨h, h2⟩]
theorem skp_e {b : Nat → Nat} {n i : Nat} (h : ¬ (i < n ∧ isBl (b i) = true)) : skp b n i = i := by
  unfold skp
  cases e : n - i with
  | zero => rfl
  | succ m => rw [skm, if_neg h]
theorem skp_to {b : Nat → Nat} {n : Nat} : ∀ m i, n - i = m → i ≤ skp b n i ∧ (i ≤ n → skp b n i ≤ n) ∧ (skp b n i < n → isBl (b (skp b n i)) = false)
  | 0, i, e => by
    rw [skp_e (by omega)]
    exact ⟨Nat.le_refl _, fun h => h, fun h => by omega⟩
  | m + 1, i, e => by
    by_cases q : isBl (b i) = true
    · obtain ⟨h1, h2, h3⟩ := skp_to (b := b) (n := n) m (i + 1) (by omega)
      rw [skp_s (by omega) q]
      exact ⟨by omega, fun _ => h2 (by omega), h3⟩
    · rw [skp_e (fun y => q y.2)]
      exact ⟨Nat.le_refl _, fun h => h, fun _ => Bool.eq_false_iff.2 q⟩
theorem skp_ge {b : Nat → Nat} {n i : Nat} : i ≤ skp b n i := (skp_to (n - i) i rfl).1
theorem skp_le {b : Nat → Nat} {n i : Nat} (h : i ≤ n) : skp b n i ≤ n := (skp_to (n - i) i rfl).2.1 h
theorem skp_nb {b : Nat → Nat} {n i : Nat} (h : skp b n i < n) : isBl (b (skp b n i)) = false := (skp_to (n - i) i rfl).2.2 h
theorem skp_id {b : Nat → Nat} {n i : Nat} (h : i < n → isBl (b i) = false) : skp b n i = i := skp_e (fun y => by rw [h y.1] at y; cases y.2)
theorem skp_skp {b : Nat → Nat} {n i : Nat} : skp b n (skp b n i) = skp b n i := skp_id skp_nb
def rnm (b : Nat → Nat) (n k : Nat) : Nat → Nat → Nat
  | 0, i => i
  | m + 1, i => if i < n ∧ kd (b i) = k then rnm b n k m (i + 1) else i
def run (b : Nat → Nat) (n k i : Nat) : Nat := rnm b n k (n - i) i
theorem run_s {b : Nat → Nat} {n k i : Nat} (h : i < n) (h2 : kd (b i) = k) : run b n k i = run b n k (i + 1) := by
  unfold run
  rw [show n - i = (n - (i + 1)) + 1 by omega, rnm, if_pos ⟨h, h2⟩]
theorem run_e {b : Nat → Nat} {n k i : Nat} (h : ¬ (i < n ∧ kd (b i) = k)) : run b n k i = i := by
  unfold run
  cases e : n - i with
  | zero => rfl
  | succ m => rw [rnm, if_neg h]
theorem run_to {b : Nat → Nat} {n k : Nat} : ∀ m i, n - i = m → i ≤ run b n k i ∧ (i ≤ n → run b n k i ≤ n) ∧ (run b n k i < n → kd (b (run b n k i)) ≠ k) ∧ ∀ j, i ≤ j → j < run b n k i → kd (b j) = k
  | 0, i, e => by
    rw [run_e (by omega)]
    exact ⟨Nat.le_refl _, fun h => h, fun h => by omega, fun j h1 h2 => by omega⟩
  | m + 1, i, e => by
    by_cases q : kd (b i) = k
    · obtain ⟨h1, h2, h3, h4⟩ := run_to (b := b) (n := n) (k := k) m (i + 1) (by omega)
      rw [run_s (by omega) q]
      refine ⟨by omega, fun _ => h2 (by omega), h3, fun j j1 j2 => ?_⟩
      by_cases y : j = i
      · rw [y]; exact q
      · exact h4 j (by omega) j2
    · rw [run_e (fun y => q y.2)]
      exact ⟨Nat.le_refl _, fun h => h, fun _ => q, fun j h1 h2 => by omega⟩
theorem run_ge {b : Nat → Nat} {n k i : Nat} : i ≤ run b n k i := (run_to (n - i) i rfl).1
theorem run_le {b : Nat → Nat} {n k i : Nat} (h : i ≤ n) : run b n k i ≤ n := (run_to (n - i) i rfl).2.1 h
theorem run_no {b : Nat → Nat} {n k i : Nat} (h : run b n k i < n) : kd (b (run b n k i)) ≠ k := (run_to (n - i) i rfl).2.2.1 h
theorem run_in {b : Nat → Nat} {n k i j : Nat} (h1 : i ≤ j) (h2 : j < run b n k i) : kd (b j) = k := (run_to (n - i) i rfl).2.2.2 j h1 h2
def eot (b : Nat → Nat) (n i : Nat) : Nat := if kd (b i) = 3 then i + 1 else run b n (kd (b i)) (i + 1)
theorem eot_gt {b : Nat → Nat} {n i : Nat} : i < eot b n i := by
  unfold eot
  split
  · omega
  · exact run_ge
theorem eot_le {b : Nat → Nat} {n i : Nat} (h : i < n) : eot b n i ≤ n := by
  unfold eot
  split
  · omega
  · exact run_le h
theorem eot_in {b : Nat → Nat} {n i j : Nat} (h : kd (b i) ≠ 3) (h1 : i ≤ j) (h2 : j < eot b n i) : kd (b j) = kd (b i) := by
  unfold eot at h2
  rw [if_neg h] at h2
  by_cases y : j = i
  · rw [y]
  · exact run_in (by omega) h2
theorem eot_no {b : Nat → Nat} {n i : Nat} (h : kd (b i) ≠ 3) (h2 : eot b n i < n) : kd (b (eot b n i)) ≠ kd (b i) := by
  unfold eot at h2 ⊢
  rw [if_neg h] at h2 ⊢
  exact run_no h2
abbrev pT : Type := Nat × Bool
abbrev Tok : Type := Nat × List Nat
abbrev tFin : Tok := (0, [])
abbrev tStk : Tok := (4, [])
abbrev tWd (l : List Nat) : Tok := (1, l)
abbrev tNm (l : List Nat) : Tok := (2, l)
abbrev tSg (c : Nat) : Tok := (3, [c])
def sub (b : Nat → Nat) (i e : Nat) : List Nat := (List.range (e - i)).map (fun k => b (i + k))
def tok (b : Nat → Nat) (n : Nat) (P : pT) : Tok := if n ≤ P.1 then tFin else if kd (b P.1) = 3 then tSg (b P.1) else if P.2 = true then tStk else if kd (b P.1) = 1 then tWd (sub b P.1 (eot b n P.1)) else tNm (sub b P.1 (eot b n P.1))
def adv (b : Nat → Nat) (n : Nat) (P : pT) : pT := (skp b n (eot b n P.1), decide (kd (b P.1) ≠ 3 ∧ skp b n (eot b n P.1) = eot b n P.1))
theorem sub_len {b : Nat → Nat} {i e : Nat} : (sub b i e).length = e - i := by
  unfold sub
  rw [List.length_map, List.length_range]
theorem sub_at {b : Nat → Nat} {i e k : Nat} (h : k < (sub b i e).length) : (sub b i e)[k] = b (i + k) := by
  simp [sub]
theorem sub_eq {b : Nat → Nat} {i e : Nat} {l : List Nat} (h1 : e - i = l.length) (h2 : ∀ k (h : k < l.length), b (i + k) = l[k]) : sub b i e = l := by
  apply List.ext_getElem
  · rw [sub_len, h1]
  · intro k k1 k2
    rw [sub_at]
    exact h2 k k2
theorem kd_le (c : Nat) : 1 ≤ kd c ∧ kd c ≤ 3 := by
  unfold kd
  split
  · omega
  · split <;> omega
/-- the scanner of the class -/
def CS (s : sT) (b : Nat → Nat) (n : Nat) (P : pT) : Prop := P.1 ≤ n ∧ rI s 4 2 = nI P.1 ∧ (P.1 = n → rI s 4 1 = 0 ∧ rI s 4 3 = nI n) ∧ (P.1 < n → isBl (b P.1) = false ∧ rI s 4 3 = nI (eot b n P.1) ∧ rI s 4 1 = nI (if kd (b P.1) = 3 then 3 else if P.2 = true then 4 else kd (b P.1)))
def TC (s : sT) (b : Nat → Nat) (n : Nat) : Prop := n ≤ 1600 ∧ rI s 2 1 = nI n ∧ tpC s 3 b
def X4 (a j : Nat) : Bool := Nat.beq a 4 && (Nat.beq j 1 || (Nat.beq j 2 || Nat.beq j 3))
theorem TC_fr {X : Nat → Nat → Bool} {s t : sT} {b : Nat → Nat} {n : Nat} (F : Fr X s t) (h2 : ∀ a j, a = 2 ∨ a = 3 → X a j = false) (T : TC s b n) : TC t b n := by
  obtain ⟨t1, t2, t3⟩ := T
  refine ⟨t1, by rw [F.1 _ _ (h2 _ _ (Or.inl rfl))]; exact t2, fun k hk => ?_⟩
  rw [F.1 _ _ (h2 _ _ (Or.inr rfl))]
  exact t3 k hk
theorem CS_fr {X : Nat → Nat → Bool} {s t : sT} {b : Nat → Nat} {n : Nat} {P : pT} (F : Fr X s t) (h2 : ∀ j, 1 ≤ j → j ≤ 3 → X 4 j = false) (C : CS s b n P) : CS t b n P := by
  obtain ⟨c1, c2, c3, c4⟩ := C
  refine ⟨c1, by rw [F.1 _ _ (h2 _ (by omega) (by omega))]; exact c2, fun q => ?_, fun q => ?_⟩
  · rw [F.1 _ _ (h2 1 (by omega) (by omega)), F.1 _ _ (h2 3 (by omega) (by omega))]
    exact c3 q
  · rw [F.1 _ _ (h2 1 (by omega) (by omega)), F.1 _ _ (h2 3 (by omega) (by omega))]
    exact c4 q
theorem kd_1 {c : Nat} : kd c = 1 ↔ 97 ≤ c ∧ c ≤ 122 := by
  unfold kd
  split
  · omega
  · split <;> omega
theorem kd_2 {c : Nat} : kd c = 2 ↔ 48 ≤ c ∧ c ≤ 57 := by
  unfold kd
  split
  · omega
  · split <;> omega
/-- behind the run: a sign, a word or a number without its blank, a word, a number -/
theorem w_adv243 {b : Nat → Nat} {n i e k : Nat} {v2 v3 : Int32} {Q : sT → Prop} {s0 s : sT} (T : TC s0 b n) (hi : i < n) (he : e ≤ n) (hv : v2 = 0 ∨ v2 = 1) (hw : (v3 = 0 ∧ kd (b i) ≠ 1 ∧ k = 2) ∨ (v3 = 1 ∧ kd (b i) = 1 ∧ k = 1)) (h : ∀ s', Fr X4 s0 s' → rI s' 4 2 = nI i → rI s' 4 3 = nI (eot b n i) → rI s' 4 1 = nI (if kd (b i) = 3 then 3 else if v2 = 1 ∧ i = e then 4 else kd (b i)) → Q s') (F : Fr X4 s0 s) (c2 : rI s 4 2 = nI i) (c3 : rI s 4 3 = nI (run b n k i)) : c8_advance_243 (nI e) v2 v3 Q s := by
  have hn := T.1
  have hl : run b n k i ≤ n := run_le (Nat.le_of_lt hi)
  have hkl := kd_le (b i)
  have k3 : k = 1 ∨ k = 2 := by
    rcases hw with ⟨-, -, y⟩ | ⟨-, -, y⟩
    · exact Or.inr y
    · exact Or.inl y
  have het : kd (b i) = k → eot b n i = run b n k i := fun q => by
    unfold eot
    rw [if_neg (by omega), q, ← run_s hi q]
  have last : kd (b i) = k → ¬ (v2 = 1 ∧ i = e) → (v3 = 0 → ∀ u : sT, u = wI s 4 1 (2 : Int32) → Q u) ∧ (¬ v3 = 0 → ∀ u : sT, u = wI s 4 1 (1 : Int32) → Q u) := by
    intro q z
    have go : ∀ u : sT, u = wI s 4 1 (nI k) → Q u := fun u hu => h u (by rw [hu]; exact fr_wI F rfl) (by rw [hu, rI_wI, if_neg (by omega)]; exact c2) (by rw [hu, rI_wI, if_neg (by omega), het q]; exact c3) (by rw [hu, rI_wI, if_pos ⟨rfl, rfl⟩, if_neg (by omega), if_neg z, q])
    rcases hw with ⟨w0, w1, w2⟩ | ⟨w0, w1, w2⟩
    · rw [w2] at go
      exact ⟨fun _ => go, fun y => absurd w0 y⟩
    · rw [w2] at go
      rw [w0]
      exact ⟨fun y => absurd y (by decide), fun _ => go⟩
  refine e_c8_advance_243 ?_
  rw [c2, c3, nI_eq (by omega) (by omega), nI_eq (by omega) (by omega)]
  refine br_c (fun q u1 h1 u2 h2 => ?_) (fun q => ?_)
  · have hk : ¬ kd (b i) = k := fun y => by
      have h9 := run_ge (b := b) (n := n) (k := k) (i := i + 1)
      rw [run_s hi y] at q
      omega
    have h3 : kd (b i) = 3 := by
      rcases hw with ⟨-, w1, w2⟩ | ⟨-, w1, w2⟩
      · omega
      · omega
    have r3 : rI u1 4 3 = nI i := by rw [h1, rI_wI, if_neg (by omega), c3, q]
    have h4 : eot b n i = i + 1 := by
      unfold eot
      rw [if_pos h3]
    rw [r3, nI_1] at h2
    exact h u2 (by rw [h2, h1]; exact fr_wI (fr_wI F rfl) rfl) (by rw [h2, rI_wI, if_neg (by omega), h1, rI_wI, if_neg (by omega)]; exact c2) (by rw [h2, rI_wI, if_pos ⟨rfl, rfl⟩, h4]) (by rw [h2, rI_wI, if_neg (by omega), h1, rI_wI, if_pos ⟨rfl, rfl⟩, if_pos h3]; rfl)
  · have hk : kd (b i) = k := Decidable.byContradiction (fun y => q (run_e (fun z => y z.2)))
    rcases hv with rfl | rfl
    · exact br_t rfl (last hk (fun y => by cases y.1))
    · refine br_f (by decide) (br_c (fun q2 u hu => ?_) (fun q2 => last hk (fun y => q2 y.2)))
      exact h u (by rw [hu]; exact fr_wI F rfl) (by rw [hu, rI_wI, if_neg (by omega)]; exact c2) (by rw [hu, rI_wI, if_neg (by omega), het hk]; exact c3) (by rw [hu, rI_wI, if_pos ⟨rfl, rfl⟩, if_neg (by omega), if_pos ⟨rfl, q2⟩]; rfl)
theorem w_adv182 {b : Nat → Nat} {n i e k ll hh : Nat} {v2 v3 : Int32} {Q : sT → Prop} {s0 : sT} (T : TC s0 b n) (hi : i < n) (he : e ≤ n) (hv : v2 = 0 ∨ v2 = 1) (hw : (v3 = 0 ∧ kd (b i) ≠ 1 ∧ k = 2) ∨ (v3 = 1 ∧ kd (b i) = 1 ∧ k = 1)) (hk : ∀ c, kd c = k ↔ ll ≤ c ∧ c ≤ hh) (h5 : ll < 256) (h6 : hh < 256) (h : ∀ s', Fr X4 s0 s' → rI s' 4 2 = nI i → rI s' 4 3 = nI (eot b n i) → rI s' 4 1 = nI (if kd (b i) = 3 then 3 else if v2 = 1 ∧ i = e then 4 else kd (b i)) → Q s') : ∀ m j s, n - j = m → j ≤ n → Fr X4 s0 s → rI s 4 2 = nI i → rI s 4 3 = nI j → run b n k i = run b n k j → c8_advance_182 (nI e) v2 v3 (nI ll) (nI hh) Q s := by
  have hn := T.1
  intro m
  induction m with
  | zero =>
    intro j s e1 hj F c2 c3 gr
    exact e_c8_advance_182 (br_f (by rw [c3, F.1 2 1 rfl, T.2.1]; exact nI_nlt (by omega) (by omega)) (w_adv243 T hi he hv hw h F c2 (by rw [c3, gr, run_e (by omega)])))
  | succ m ih =>
    intro j s e1 hj F c2 c3 gr
    refine e_c8_advance_182 (br_t (by rw [c3, F.1 2 1 rfl, T.2.1]; exact nI_lt (by omega) (by omega)) ?_)
    have hb := (T.2.2 j (by omega)).1
    have no : ¬ kd (b j) = k → c8_advance_243 (nI e) v2 v3 Q s := fun y => w_adv243 T hi he hv hw h F c2 (by rw [c3, gr, run_e (fun z => y z.2)])
    rw [c3, nI_clamp (by omega), F.1 3 _ rfl, (T.2.2 j (by omega)).2, nI_1, nI_ltI (by omega) (by omega), nI_ltI (by omega) (by omega)]
    refine ⟨vp_in_nI (by omega) (by decide), br_c (fun q => no (fun y => by have := (hk _).1 y; omega)) (fun q => ⟨vp_in_nI (by omega) (by decide), br_c (fun q2 => no (fun y => by have := (hk _).1 y; omega)) (fun q2 u hu => ?_)⟩)⟩
    have hkj : kd (b j) = k := (hk _).2 (by omega)
    exact ih (j + 1) u (by omega) (by omega) (by rw [hu]; exact fr_wI F rfl) (by rw [hu, rI_wI, if_neg (by omega)]; exact c2) (by rw [hu, rI_wI, if_pos ⟨rfl, rfl⟩]) (by rw [gr, run_s (by omega) hkj])
theorem w_adv88 {b : Nat → Nat} {n i e : Nat} {v2 : Int32} {Q : sT → Prop} {s0 s : sT} (T : TC s0 b n) (hi : i ≤ n) (he : e ≤ n) (hb : i < n → isBl (b i) = false) (hv : v2 = 0 ∨ v2 = 1) (F : Fr X4 s0 s) (c3 : rI s 4 3 = nI i) (h : ∀ s', Fr X4 s0 s' → CS s' b n (i, decide (v2 = 1 ∧ i = e)) → Q s') : c8_advance_88 (nI e) v2 Q s := by
  have hn := T.1
  refine e_c8_advance_88 (fun u hu => ?_)
  rw [c3] at hu
  have Fu : Fr X4 s0 u := by rw [hu]; exact fr_wI F rfl
  have u2 : rI u 4 2 = nI i := by rw [hu, rI_wI, if_pos ⟨rfl, rfl⟩]
  have u3 : rI u 4 3 = nI i := by rw [hu, rI_wI, if_neg (by omega)]; exact c3
  rw [u3, u2, Fu.1 2 1 rfl, T.2.1, nI_ltI (by omega) (by omega)]
  refine br_c (fun q => ?_) (fun q w hw => ?_)
  · have hb0 := (T.2.2 i (by omega)).1
    rw [nI_clamp (by omega), Fu.1 3 _ rfl, (T.2.2 i (by omega)).2, show (97 : Int32) = nI 97 from rfl, show (122 : Int32) = nI 122 from rfl, nI_ltI (by omega) (by decide), nI_ltI (by decide) (by omega)]
    have fin : ∀ s', Fr X4 s0 s' → rI s' 4 2 = nI i → rI s' 4 3 = nI (eot b n i) → rI s' 4 1 = nI (if kd (b i) = 3 then 3 else if v2 = 1 ∧ i = e then 4 else kd (b i)) → Q s' := fun s' F' g2 g3 g1 => by
      refine h s' F' ⟨hi, g2, fun y => ?_, fun _ => ⟨hb q, g3, ?_⟩⟩
      · dsimp only at y
        omega
      · rw [g1]
        dsimp only
        simp only [decide_eq_true_eq]
    have num : ¬ kd (b i) = 1 → c8_advance_155 (nI e) v2 (0 : Int32) Q u := fun y => e_c8_advance_155 (br_t rfl (br_t rfl (w_adv182 (i := i) (k := 2) (ll := 48) (hh := 57) T q he hv (Or.inl ⟨rfl, y, rfl⟩) (fun c => kd_2) (by decide) (by decide) fin (n - i) i u rfl hi Fu u2 u3 rfl)))
    have wrd : kd (b i) = 1 → c8_advance_155 (nI e) v2 (1 : Int32) Q u := fun y => e_c8_advance_155 (br_f (by decide) (br_f (by decide) (w_adv182 (i := i) (k := 1) (ll := 97) (hh := 122) T q he hv (Or.inr ⟨rfl, y, rfl⟩) (fun c => kd_1) (by decide) (by decide) fin (n - i) i u rfl hi Fu u2 u3 rfl)))
    refine ⟨vp_in_nI (by omega) (by decide), br_c (fun y => num (fun z => by have := kd_1.1 z; omega)) (fun y => ⟨vp_in_nI (by omega) (by decide), br_c (fun y2 => num (fun z => by have := kd_1.1 z; omega)) (fun y2 => wrd (kd_1.2 (by omega)))⟩)⟩
  · have hin : i = n := by omega
    refine h w (by rw [hw]; exact fr_wI Fu rfl) ⟨hi, by rw [hw, rI_wI, if_neg (by omega)]; exact u2, fun _ => ⟨by rw [hw, rI_wI, if_pos ⟨rfl, rfl⟩], by rw [hw, rI_wI, if_neg (by omega), u3, hin]⟩, fun y => ?_⟩
    dsimp only at y
    omega
theorem w_adv27 {b : Nat → Nat} {n e : Nat} {v2 : Int32} {Q : sT → Prop} {s0 : sT} (T : TC s0 b n) (he : e ≤ n) (hv : v2 = 0 ∨ v2 = 1) : ∀ m i s, n - i = m → i ≤ n → Fr X4 s0 s → rI s 4 3 = nI i → (∀ s', Fr X4 s0 s' → CS s' b n (skp b n i, decide (v2 = 1 ∧ skp b n i = e)) → Q s') → c8_advance_27 (nI e) v2 Q s := by
  have hn := T.1
  intro m
  induction m with
  | zero =>
    intro i s e1 hi F c3 h
    have hin : i = n := by omega
    rw [skp_e (by omega)] at h
    refine e_c8_advance_27 (br_f (by rw [c3, F.1 2 1 rfl, T.2.1]; exact nI_nlt (by omega) (by omega)) (w_adv88 T hi he (fun y => by omega) hv F c3 h))
  | succ m ih =>
    intro i s e1 hi F c3 h
    have hb := (T.2.2 i (by omega)).1
    refine e_c8_advance_27 (br_t (by rw [c3, F.1 2 1 rfl, T.2.1]; exact nI_lt (by omega) (by omega)) ?_)
    rw [c3, nI_clamp (by omega), F.1 3 _ rfl, (T.2.2 i (by omega)).2, nI_1, show (32 : Int32) = nI 32 from rfl, show (10 : Int32) = nI 10 from rfl, nI_eq (by omega) (by decide), nI_eq (by omega) (by decide)]
    have go : isBl (b i) = true → ∀ u : sT, u = wI s 4 3 (nI (i + 1)) → c8_advance_27 (nI e) v2 Q u := fun q u hu => by
      rw [skp_s (by omega) q] at h
      exact ih (i + 1) u (by omega) (by omega) (by rw [hu]; exact fr_wI F rfl) (by rw [hu, rI_wI, if_pos ⟨rfl, rfl⟩]) h
    refine ⟨vp_in_nI (by omega) (by decide), br_c (fun q => go (by rw [q]; rfl)) (fun q => ⟨vp_in_nI (by omega) (by decide), br_c (fun q2 => go (by rw [q2]; rfl)) (fun q2 => ?_)⟩)⟩
    have hbl : isBl (b i) = false := by
      unfold isBl
      rw [Bool.eq_false_iff]
      intro y
      rw [Bool.or_eq_true, Nat.beq_eq, Nat.beq_eq] at y
      omega
    rw [skp_e (fun y => by rw [hbl] at y; cases y.2)] at h
    exact w_adv88 T hi he (fun _ => hbl) hv F c3 h
/-- the class goes on behind a word, a number, a sign -/
theorem w_adv {b : Nat → Nat} {n : Nat} {P : pT} {Q : sT → Prop} {s : sT} (T : TC s b n) (C : CS s b n P) (hP : P.1 < n) (hs : tok b n P ≠ tStk) (h : ∀ s', Fr X4 s s' → CS s' b n (adv b n P) → Q s') : c8_advance Q s := by
  obtain ⟨c1, c2, c3, c4⟩ := C
  obtain ⟨c5, c6, c7⟩ := c4 hP
  have hn := T.1
  have hk := kd_le (b P.1)
  have he := eot_le (b := b) hP
  have go : ∀ v2 : Int32, (v2 = 0 ∨ v2 = 1) → (v2 = 1 ↔ kd (b P.1) ≠ 3) → c8_advance_27 (nI (eot b n P.1)) v2 Q s := fun v2 hv hv2 => by
    refine w_adv27 T he hv (n - eot b n P.1) _ s rfl he fr_rf c6 (fun s' F' C' => h s' F' ?_)
    rw [decide_eq_decide.2 (and_congr_left' hv2)] at C'
    exact C'
  refine e_c8_advance (fun x hx => ?_)
  rw [hx, c6, c7]
  by_cases q : kd (b P.1) = 3
  · rw [if_pos q]
    exact br_f (by decide) (br_f (by decide) (go 0 (Or.inl rfl) ⟨fun y => absurd y (by decide), fun y => absurd q y⟩))
  · have q2 : P.2 = false := by
      cases e : P.2 with
      | false => rfl
      | true =>
        refine absurd ?_ hs
        unfold tok
        rw [if_neg (by omega), if_neg q, if_pos e]
    rw [if_neg q, q2, if_neg (by decide)]
    have c : kd (b P.1) = 1 ∨ kd (b P.1) = 2 := by omega
    rcases c with e | e
    · rw [e]
      exact br_t rfl (go 1 (Or.inr rfl) ⟨fun _ => q, fun _ => rfl⟩)
    · rw [e]
      exact br_f (by decide) (br_t rfl (go 1 (Or.inr rfl) ⟨fun _ => q, fun _ => rfl⟩))
def X45 (a j : Nat) : Bool := Nat.beq a 4 && (Nat.ble 1 j && Nat.ble j 5)
theorem x45_4 {a j : Nat} (h : X4 a j = true) : X45 a j = true := by
  unfold X4 at h
  unfold X45
  simp only [Bool.and_eq_true, Bool.or_eq_true, Nat.beq_eq, Nat.ble_eq] at *
  omega
theorem w_begin {b : Nat → Nat} {n : Nat} {Q : sT → Prop} {s : sT} (T : TC s b n) (h : ∀ s', Fr X45 s s' → CS s' b n (skp b n 0, false) → rI s' 4 4 = 0 → rI s' 4 5 = -1 → Q s') : c8_begin Q s := by
  refine e_c8_begin (fun u1 h1 u2 h2 u3 h3 u4 h4 => ?_)
  have F4 : Fr X45 s u4 := by
    rw [h4, h3, h2, h1]
    exact fr_wI (fr_wI (fr_wI (fr_wI fr_rf rfl) rfl) rfl) rfl
  have T4 : TC u4 b n := TC_fr F4 (fun a j q => by rcases q with rfl | rfl <;> rfl) T
  have r1 : rI u4 4 1 = 0 := by rw [h4, rI_wI, if_neg (by omega), h3, rI_wI, if_neg (by omega), h2, rI_wI, if_neg (by omega), h1, rI_wI, if_pos ⟨rfl, rfl⟩]
  have r3 : rI u4 4 3 = nI 0 := by rw [h4, rI_wI, if_neg (by omega), h3, rI_wI, if_neg (by omega), h2, rI_wI, if_pos ⟨rfl, rfl⟩]; rfl
  refine e_c8_advance (fun x hx => ?_)
  rw [hx, r1, r3]
  refine br_f (by decide) (br_f (by decide) (w_adv27 T4 (Nat.zero_le _) (Or.inl rfl) (n - 0) 0 u4 rfl (Nat.zero_le _) fr_rf r3 (fun s' F' C' => h s' (fr_tr F4 (fr_mo F' fun a j q => x45_4 q)) ?_ ?_ ?_)))
  · rw [show decide ((0 : Int32) = 1 ∧ skp b n 0 = 0) = false from decide_eq_false (fun y => by cases y.1)] at C'
    exact C'
  · rw [F'.1 _ _ rfl, h4, rI_wI, if_neg (by omega), h3, rI_wI, if_pos ⟨rfl, rfl⟩]
  · rw [F'.1 _ _ rfl, h4, rI_wI, if_pos ⟨rfl, rfl⟩]
