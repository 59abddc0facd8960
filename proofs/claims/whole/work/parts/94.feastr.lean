def XH (a j : Nat) : Bool := (Nat.beq a 200 && Nat.ble j 36) || (Nat.beq a 208 || (Nat.beq a 209 || (Nat.beq a 162 && Nat.beq j 68)))
theorem xh_f {a j : Nat} (h : a ≠ 200) (h2 : a ≠ 208) (h3 : a ≠ 209) (h4 : a ≠ 162) : XH a j = false := by
  unfold XH
  rw [Bool.eq_false_iff]
  intro q
  simp only [Bool.or_eq_true, Bool.and_eq_true, Nat.beq_eq, Nat.ble_eq] at q
  omega
theorem xz_h {a j : Nat} (h : XH a j = true) : Xz a j = true := by
  unfold XH at h
  unfold Xz
  simp only [Bool.or_eq_true, Bool.and_eq_true, Nat.beq_eq, Nat.ble_eq] at *
  omega
theorem w_mvR {x fin : Nat} {w : Nat → Nat} {d : Int32} {Q : sT → Prop} {s : sT} (w' : Nat → Nat) (hx : x < 2 ^ fin) (hf : fin ≤ 24) (hF : rI s 193 5 = nI fin) (N : NwW s w) (h0 : ∀ n, ¬ (1 ≤ n ∧ n ≤ 24) → w' n = w n) (h1 : ∀ n, 1 ≤ n → n ≤ 24 → nI (w' n) = if x.testBit (n - 1) = true then nI (w n) + d else nI (w n)) (h : ∀ s', Fr (fun a j => Nat.beq a 200 && Nat.ble j 36) s s' → NwW s' w' → Q s') : c12_moves (nI x) d Q s := by
  refine w_moves hx hf hF ?_
  generalize hu : wC s 200 (mvF x d 24 (rA s 200)) = u
  have r : ∀ a j, rI u a j = if a = 200 then mvF x d 24 (rA s 200) j else rI s a j := fun a j => by rw [← hu, rI_wC]
  refine h u ⟨fun a j q => ?_, fun a j q => by rw [← hu]; rfl, by rw [← hu]; rfl⟩ (fun k hk => ?_)
  · rw [r]
    by_cases y : a = 200
    · rw [if_pos y, y]
      unfold mvF
      rw [if_neg (fun z => ?_)]
      · rfl
      · rw [y, Bool.and_eq_false_iff] at q
        rcases q with q | q
        · cases q
        · have : ¬ Nat.ble j 36 = true := by rw [q]; decide
          rw [Nat.ble_eq] at this
          omega
    · rw [if_neg y]
  · rw [r, if_pos rfl]
    unfold mvF
    by_cases y : 1 ≤ k ∧ k ≤ 24
    · rw [h1 k y.1 y.2]
      by_cases z : x.testBit (k - 1) = true
      · rw [if_pos ⟨y.1, y.2, z⟩, if_pos z, rA_r, N k hk]
      · rw [if_neg (fun t => z t.2.2), if_neg z, rA_r, N k hk]
    · rw [if_neg (fun t => y ⟨t.1, t.2.1⟩), rA_r, N k hk, h0 k y]
theorem w_mvR_1 {x fin : Nat} {w : Nat → Nat} {Q : sT → Prop} {s : sT} (hx : x < 2 ^ fin) (hf : fin ≤ 24) (hF : rI s 193 5 = nI fin) (N : NwW s w) (hz : fz w x = true) (h : ∀ s', Fr (fun a j => Nat.beq a 200 && Nat.ble j 36) s s' → NwW s' (tkW x w) → Q s') : c12_moves (nI x) (-1 : Int32) Q s := by
  have hs := sB_iff.1 hz
  refine w_mvR (tkW x w) hx hf hF N (fun n q => ?_) (fun n n1 n2 => ?_) h
  · unfold tkW
    rw [if_neg (fun y => q ⟨y.1, y.2.1⟩)]
  · unfold tkW
    by_cases z : x.testBit (n - 1) = true
    · have := hs (n - 1) (by omega) z
      rw [show n - 1 + 1 = n by omega] at this
      rw [if_pos ⟨n1, n2, z⟩, if_pos z, nI_dec (of_decide_eq_true this)]
    · rw [if_neg (fun y => z y.2.2), if_neg z]
theorem w_mvR_2 {x fin : Nat} {w : Nat → Nat} {Q : sT → Prop} {s : sT} (hx : x < 2 ^ fin) (hf : fin ≤ 24) (hF : rI s 193 5 = nI fin) (N : NwW s (tkW x w)) (hz : fz w x = true) (h : ∀ s', Fr (fun a j => Nat.beq a 200 && Nat.ble j 36) s s' → NwW s' w → Q s') : c12_moves (nI x) (1 : Int32) Q s := by
  refine w_mvR (plW x (tkW x w)) hx hf hF N (fun n q => ?_) (fun n n1 n2 => ?_) (fun s' g1 g2 => h s' g1 (by rw [pl_tk hz] at g2; exact g2))
  · unfold plW
    rw [if_neg (fun y => q ⟨y.1, y.2.1⟩)]
  · unfold plW
    by_cases z : x.testBit (n - 1) = true
    · rw [if_pos ⟨n1, n2, z⟩, if_pos z, nI_1]
    · rw [if_neg (fun y => z y.2.2), if_neg z]
/-- the best till now, as it stands -/
def accC (s : sT) (acc : Nat × List Nat) : Prop := rI s 162 68 = cV acc.1 ∧ acc.1 ≤ 7 ∧ acc.2.length ≤ 6 ∧ rowC s 209 0 acc.2
def RF (s0 s : sT) (w : Nat → Nat) : Prop := Fr XH s0 s ∧ NwW s w
theorem xh_n {a j : Nat} (h : (fun a j => Nat.beq a 200 && Nat.ble j 36 : Nat → Nat → Bool) a j = true) : XH a j = true := by
  unfold XH
  rw [show (Nat.beq a 200 && Nat.ble j 36) = true from h, Bool.true_or]
/-- a choice is written -/
theorem RF_8 {s0 s t : sT} {w : Nat → Nat} {j : Nat} {v : Int32} (R : RF s0 s w) (e : t = wI s 208 j v) : RF s0 t w := ⟨by rw [e]; exact fr_wI R.1 rfl, fun k hk => by rw [e, rI_wI, if_neg (by omega)]; exact R.2 k hk⟩
theorem accC_8 {s t : sT} {acc : Nat × List Nat} {j : Nat} {v : Int32} (A : accC s acc) (e : t = wI s 208 j v) : accC t acc := by
  obtain ⟨a, b, c, d⟩ := A
  exact ⟨by rw [e, rI_wI, if_neg (by omega)]; exact a, b, c, rowC_fr (fun k _ _ => by rw [e, rI_wI, if_neg (by omega)]) d⟩
theorem accC_n {s t : sT} {acc : Nat × List Nat} (A : accC s acc) (F : Fr (fun a j => Nat.beq a 200 && Nat.ble j 36) s t) : accC t acc := by
  obtain ⟨a, b, c, d⟩ := A
  exact ⟨by rw [F.1 _ _ rfl]; exact a, b, c, rowC_fr (fun k _ _ => F.1 _ _ rfl) d⟩
theorem rowC_8 {s t : sT} {r : List Nat} {j : Nat} {v : Int32} (A : rowC s 208 0 r) (h : r.length ≤ j) (e : t = wI s 208 j v) : rowC t 208 0 r := rowC_fr (fun k _ h2 => by rw [e, rI_wI, if_neg (by omega)]) A
theorem rowC_n {s t : sT} {r : List Nat} (A : rowC s 208 0 r) (F : Fr (fun a j => Nat.beq a 200 && Nat.ble j 36) s t) : rowC t 208 0 r := rowC_fr (fun k _ _ => F.1 _ _ rfl) A
/-- the next choice -/
theorem w_behind {fin ppl bk p : Nat} {L : Nat → List Nat} {lc : List Nat} {w : Nat → Nat} {Q : Int32 → sT → Prop} {s : sT} (C : OCr s fin ppl bk L lc) (hp : p < ppl) (N : NwW s w) (hw : ∀ k, w k ≤ 999) : ∀ q k, k + q = kpF (L p) → (∀ k', k ≤ k' → k' < kpF (L p) → fz w ((L p).getD k' 0) = true → (∀ i, k ≤ i → i < k' → fz w ((L p).getD i 0) = false) → Q (nI k') s) → ((∀ i, k ≤ i → i < kpF (L p) → fz w ((L p).getD i 0) = false) → Q (-2) s) → c12_choiceBehind_12 (nI p) (nI k) Q s := by
  have h24 := C.1
  have o2 := C.2.1
  obtain ⟨⟨c1, c2, c3, c4, c5⟩, cx⟩ := C.2.2.2.2.2.2.2 p hp
  have hK : kpF (L p) ≤ (L p).length ∧ kpF (L p) ≤ 8 := by unfold kpF; split <;> omega
  have less : ∀ P : Int32 → sT → Prop, P (nI (kpF (L p))) s → c12_lessOf (8 : Int32) (rI s 205 (nI p).toNatClampNeg) P s := fun P hP => by
    rw [nI_clamp (by omega), c3]
    exact lessOf_nI (a := 8) (by decide) (by omega) hP
  intro q
  induction q with
  | zero =>
    intro k e g1 g0
    have e : k = kpF (L p) := e
    refine e_c12_choiceBehind_12 ⟨vp_in_nI (by omega) (by decide), less _ (br_f (nI_nlt (by omega) (by omega)) (g0 (fun i h1 h2 => by omega)))⟩
  | succ q ih =>
    intro k e g1 g0
    have hkl : k < (L p).length := by omega
    have hxk := cx _ (List.getElem_mem hkl)
    have ex := getD_at hkl
    refine e_c12_choiceBehind_12 ⟨vp_in_nI (by omega) (by decide), less _ (br_t (nI_lt (by omega) (by omega)) ?_)⟩
    have hi : ((2000 : Int32) * nI p) + nI k = nI (2000 * p + k) := by rw [show (2000 : Int32) = nI 2000 from rfl, pk_mul, nI_add]
    rw [hi, nI_clamp (by omega), c4 k hkl]
    refine ⟨vp_in_nI (by omega) (by decide), w_inst hxk h24 C.2.2.2.1 N (fun n => by have := hw n; omega) ?_⟩
    rw [← ex, nI_1]
    cases z : sB ((L p).getD k 0) (fun n => decide (0 < w n)) with
    | true =>
      rw [if_pos rfl]
      exact yes1 (g1 k (Nat.le_refl _) (by omega) z (fun i h1 h2 => by omega))
    | false =>
      rw [if_neg (by decide)]
      refine no0 (ih (k + 1) (by omega) (fun k' h1 h2 h3 h4 => g1 k' (by omega) h2 h3 (fun i i1 i2 => ?_)) (fun y => g0 (fun i i1 i2 => ?_)))
      · by_cases t : i = k
        · rw [t]; exact z
        · exact h4 i (by omega) i2
      · by_cases t : i = k
        · rw [t]; exact z
        · exact y i (by omega) i2
theorem chR_skip {g : Nat → List (List Nat)} : ∀ q k k', k + q = k' + (q - (k' - k)) → k ≤ k' → (∀ i, k ≤ i → i < k' → g i = []) → chR g q k = chR g (q - (k' - k)) k'
  | 0, k, k', e, hk, h => by
    have : k' = k := by omega
    subst this
    rw [Nat.zero_sub]
  | q + 1, k, k', e, hk, h => by
    by_cases y : k = k'
    · subst y
      rw [Nat.sub_self, Nat.sub_zero]
    · have h1 : chR g (q + 1) k = g k ++ chR g q (k + 1) := rfl
      rw [h1, h k (Nat.le_refl _) (by omega), List.nil_append, chR_skip q (k + 1) k' (by omega) (by omega) (fun i i1 i2 => h i (by omega) i2)]
      rw [show q - (k' - (k + 1)) = q + 1 - (k' - k) by omega]
theorem chR_none {g : Nat → List (List Nat)} : ∀ q k, (∀ i, k ≤ i → i < k + q → g i = []) → chR g q k = []
  | 0, _, _ => rfl
  | q + 1, k, h => by
    have h1 : chR g (q + 1) k = g k ++ chR g q (k + 1) := rfl
    rw [h1, h k (Nat.le_refl _) (by omega), List.nil_append]
    exact chR_none q (k + 1) (fun i i1 i2 => h i (by omega) (by omega))
theorem acc_le {h : Nat} {pre : List Nat} {m : Nat} : ∀ {l : List (List Nat)} {acc : Nat × List Nat}, (∀ r, r ∈ l → cnt r ≤ m ∧ r.length = m) → h + m ≤ 6 → pre.length + m ≤ 6 → acc.1 ≤ 7 ∧ acc.2.length ≤ 6 → (l.foldl (upd2 h pre) acc).1 ≤ 7 ∧ (l.foldl (upd2 h pre) acc).2.length ≤ 6
  | [], _, _, _, _, a => a
  | r :: l, acc, g, e, e2, a => by
    rw [List.foldl_cons]
    refine acc_le (fun x hx => g x (List.mem_cons_of_mem _ hx)) e e2 ?_
    have := g r List.mem_cons_self
    unfold upd2
    split
    · refine ⟨by show h + cnt r + 1 ≤ 7; omega, ?_⟩
      show (pre ++ r).length ≤ 6
      rw [List.length_append]
      omega
    · exact a
theorem w_best44 {h p : Nat} {r : List Nat} {X : Int32 → Int32 → sT → Prop} {Q : sT → Prop} (hp : p ≤ 6) (hr : r.length = p) : ∀ q k s, k + q = p → rowC s 208 0 r → (∀ j, j < k → rI s 209 j = rI s 208 j) → (∀ s', Fr (fun a _ => Nat.beq a 209) s s' → rowC s' 209 0 r → X (nI h) (cV p) s') → c12_laysFeast_44 (nI h) (nI p) (nI k) Q X s
  | 0, k, s, e, R, g, h1 => by
    have e : k = p := e
    subst e
    refine e_c12_laysFeast_44 (br_f (nI_nlt (Nat.le_refl _) (by omega)) (h1 s fr_rf (rowC_fr (a := 208) (fun j j1 j2 => g j (by omega)) R)))
  | q + 1, k, s, e, R, g, h1 => by
    refine e_c12_laysFeast_44 (br_t (nI_lt (by omega) (by omega)) ⟨vp_in_nI (by omega) (by decide), vp_in_nI (by omega) (by decide), fun u hu => ?_⟩)
    rw [nI_clamp (by omega)] at hu
    rw [nI_1]
    refine w_best44 hp hr q (k + 1) u (by omega) (rowC_fr (fun j _ _ => by rw [hu, rI_wI, if_neg (by omega)]) R) (fun j hj => ?_) (fun s' F => h1 s' (fr_tr (by rw [hu]; exact fr_wI fr_rf rfl) F))
    rw [hu, rI_wI, rI_wI, if_neg (by omega : ¬ (208 = 209 ∧ j = k))]
    by_cases y : j = k
    · rw [if_pos ⟨rfl, y⟩, y]
    · rw [if_neg (by omega)]
      exact g j (by omega)
theorem neg2 {k : Nat} (h : k < 1000) : ¬ cV k = (-2 : Int32) := fun q => by
  have := congrArg Int32.toInt q
  rw [cV_i (by omega), show (-2 : Int32).toInt = -2 from rfl] at this
  omega
theorem w_layA {fin ppl bk : Nat} {L : Nat → List Nat} {lc : List Nat} {Q : sT → Prop} {s0 : sT} (C : OCr s0 fin ppl bk L lc) : ∀ m p h w pre acc s, p + m = ppl → pre.length = p → h ≤ p → RF s0 s w → (∀ k, w k ≤ 999) → rowC s 208 0 pre → (m ≠ 0 → rI s 208 p = -2) → accC s acc → (∀ s', RF s0 s' w → rowC s' 208 0 pre → accC s' ((fRows L m p w).foldl (upd2 h pre) acc) → c12_laysFeast_17 (nI h) (cV p) Q s') → c12_laysFeast_17 (nI h) (nI p) Q s := by
  have h24 := C.1
  have o2 := C.2.1
  intro m
  induction m with
  | zero =>
    intro p h w pre acc s e hl hh R hw P h2 A k
    have e : p = ppl := e
    subst e
    have hP : rI s 193 7 = nI p := by rw [R.1.1 _ _ rfl]; exact C.2.2.2.2.1
    obtain ⟨a1, a2, a3, a4⟩ := A
    refine e_c12_laysFeast_17 (br_f (nI_pos (by omega)) (e_c12_personMany (br_t (by rw [hP]) ?_)))
    rw [a1, cV_lt (by omega) (by omega)]
    have ef : (fRows L 0 p w).foldl (upd2 h pre) acc = (if acc.1 < h + 0 + 1 then (h + 0 + 1, pre ++ []) else acc) := rfl
    rw [ef] at k
    refine br_c (fun q u hu => ?_) (fun q => ?_)
    · rw [if_pos (by omega), List.append_nil] at k
      have r1 : ∀ a j, a ≠ 162 → rI u a j = rI s a j := fun a j y => by rw [hu, rI_wI, if_neg (by omega)]
      refine w_best44 (by omega) hl p 0 u (Nat.zero_add _) (rowC_fr (fun j _ _ => r1 _ _ (by omega)) P) (fun j hj => by omega) (fun s' F S => ?_)
      have Fs : Fr XH s0 s' := fr_tr (by rw [hu]; exact fr_wI R.1 rfl) (fr_mo F (fun a j q => by
        rw [Nat.beq_eq.mp q]
        rfl))
      refine k s' ⟨Fs, fun n hn => by rw [F.1 _ _ rfl, r1 _ _ (by omega)]; exact R.2 n hn⟩ (rowC_fr (fun j _ _ => by rw [F.1 _ _ rfl, r1 _ _ (by omega)]) P) ⟨?_, by show h + 0 + 1 ≤ 7; omega, by show pre.length ≤ 6; omega, S⟩
      rw [F.1 162 68 rfl, hu, rI_wI, if_pos ⟨rfl, rfl⟩]
      exact cV_s.symm
    · rw [if_neg (by omega)] at k
      exact k s R P ⟨a1, a2, a3, a4⟩
  | succ m ih =>
    intro p h w pre acc s e hl hh R hw P h2 A k
    have hp : p < ppl := by omega
    have hPs : ∀ {s : sT} {w : Nat → Nat}, RF s0 s w → rI s 193 7 = nI ppl := fun R => by rw [R.1.1 _ _ rfl]; exact C.2.2.2.2.1
    have hCs : ∀ {s : sT} {w : Nat → Nat}, RF s0 s w → OCr s fin ppl bk L lc := fun R => OCr_fr R.1 (fun a j q => by rcases q with rfl | rfl | rfl | rfl | rfl | rfl <;> rfl) C
    have hne : ¬ nI p = nI ppl := fun q => by
      rw [nI_eq (by omega) (by omega)] at q
      omega
    obtain ⟨cw, cx⟩ := C.2.2.2.2.2.2.2 p hp
    have hK : kpF (L p) ≤ (L p).length ∧ kpF (L p) ≤ 8 := by unfold kpF; split <;> omega
    -- behind a choice: go down, or not
    have down : ∀ (h' c : Nat) (w' : Nat → Nat) (acc' : Nat × List Nat) s1, h' = h + (if c = 0 then 0 else 1) → c < 1000 → RF s0 s1 w' → (∀ k, w' k ≤ 999) → rowC s1 208 0 pre → rI s1 208 p = cV c → accC s1 acc' → (∀ s', RF s0 s' w' → rowC s' 208 0 pre → rI s' 208 p = cV c → accC s' (((fRows L m (p + 1) w').map (List.cons c)).foldl (upd2 h pre) acc') → c12_laysFeast_17 (nI h') (nI p) Q s') → c12_laysFeast_175 (nI h') (nI p) Q (fun v1 v2 s => c12_laysFeast_17 v1 v2 Q s) s1 := by
      intro h' c w' acc' s1 eh hc R1 hw1 P1 e1 A1 k1
      have hh' : h' ≤ p + 1 := by rw [eh]; split <;> omega
      obtain ⟨a1, a2, a3, a4⟩ := id A1
      refine e_c12_laysFeast_175 (e_c12_personMany ?_)
      have en : (((nI h' + rI s1 193 7) - nI p) - (1 : Int32)) = nI (h' + m) := by
        rw [hPs R1, nI_add, pk_sub (by omega), show (1 : Int32) = nI 1 from rfl, pk_sub (by omega)]
        congr 1
        omega
      rw [en, a1, cV_lt (by omega) (by omega), nI_1, nI_clamp (by omega)]
      rw [upd2_c, ← eh] at k1
      refine br_c (fun q => ⟨vp_in_nI (by omega) (by decide), fun u hu => ?_⟩) (fun q => ?_)
      · refine ih (p + 1) h' w' (pre ++ [c]) acc' u (by omega) (by rw [List.length_append, hl]; rfl) hh' (RF_8 R1 hu) hw1 (rowC_ap (rowC_8 P1 (by omega) hu) ?_) (fun _ => by rw [hu, rI_wI, if_pos ⟨rfl, rfl⟩]) (accC_8 A1 hu) (fun s' R' P' A' => ?_)
        · rw [Nat.zero_add, hl, hu, rI_wI, if_neg (by omega)]
          exact e1
        · rw [cV_s]
          obtain ⟨p1, p2⟩ := rowC_pre P'
          rw [Nat.zero_add, hl] at p2
          exact k1 s' R' p1 p2 A'
      · rw [upd2_skip (fun r hr => ?_)] at k1
        · exact k1 s1 R1 P1 e1 A1
        · have := fRows_cnt hr
          omega
    have hfr : fRows L (m + 1) p w = (fRows L m (p + 1) w).map (List.cons 0) ++ chR (fun k => if fz w ((L p).getD k 0) = true then (fRows L m (p + 1) (tkW ((L p).getD k 0) w)).map (List.cons (k + 1)) else []) (kpF (L p)) 0 := rfl
    rw [hfr] at k
    generalize hg : (fun k => if fz w ((L p).getD k 0) = true then (fRows L m (p + 1) (tkW ((L p).getD k 0) w)).map (List.cons (k + 1)) else [] : Nat → List (List Nat)) = g at k
    have g1 : ∀ j, fz w ((L p).getD j 0) = true → g j = (fRows L m (p + 1) (tkW ((L p).getD j 0) w)).map (List.cons (j + 1)) := fun j q => by
      rw [← hg]
      dsimp only
      rw [if_pos q]
    have g0 : ∀ j, fz w ((L p).getD j 0) = false → g j = [] := fun j q => by
      rw [← hg]
      dsimp only
      rw [q, if_neg (by decide)]
    -- the writings
    have ways : ∀ N q, q ≤ N → ∀ j acc' s1, j + q = kpF (L p) → RF s0 s1 w → rowC s1 208 0 pre → rI s1 208 p = cV j → accC s1 acc' → (∀ s', RF s0 s' w → rowC s' 208 0 pre → accC s' ((chR g q j).foldl (upd2 h pre) acc') → c12_laysFeast_17 (nI h) (cV p) Q s') → c12_laysFeast_107 (nI h) (nI p) Q (fun v1 v2 s => c12_laysFeast_17 v1 v2 Q s) s1 := by
      intro N
      induction N with
      | zero =>
        intro q hq j acc' s1 e1 R1 P1 r1 A1 k1
        have hq0 : q = 0 := by omega
        subst hq0
        refine e_c12_laysFeast_107 ⟨vp_in_nI (by omega) (by decide), ?_⟩
        rw [nI_clamp (by omega), r1]
        refine e_c12_choiceBehind (br_f (neg2 (by omega)) (fun x hx => ?_))
        have ex : x = nI j := by rw [hx, cV, Int32.add_assoc]; show nI j + 0 = nI j; rw [Int32.add_zero]
        rw [ex]
        refine w_behind (hCs R1) hp R1.2 hw 0 j e1 (fun k' h1 h2 _ _ => by omega) (fun _ => ⟨vp_in_nI (by omega) (by decide), fun u hu => ⟨vp_in_nI (by omega) (by decide), br_t (by rw [hu, rI_wI, if_pos ⟨rfl, rfl⟩]) (k1 u (RF_8 R1 hu) (rowC_8 P1 (by omega) hu) (accC_8 A1 hu))⟩⟩)
      | succ N iN =>
        intro q hq j acc' s1 e1 R1 P1 r1 A1 k1
        refine e_c12_laysFeast_107 ⟨vp_in_nI (by omega) (by decide), ?_⟩
        rw [nI_clamp (by omega), r1]
        refine e_c12_choiceBehind (br_f (neg2 (by omega)) (fun x hx => ?_))
        have ex : x = nI j := by rw [hx, cV, Int32.add_assoc]; show nI j + 0 = nI j; rw [Int32.add_zero]
        rw [ex]
        refine w_behind (hCs R1) hp R1.2 hw q j e1 (fun k' h1 h2 hz hno => ⟨vp_in_nI (by omega) (by decide), fun u hu => ⟨vp_in_nI (by omega) (by decide), ?_⟩⟩) (fun hno => ⟨vp_in_nI (by omega) (by decide), fun u hu => ⟨vp_in_nI (by omega) (by decide), br_t (by rw [hu, rI_wI, if_pos ⟨rfl, rfl⟩]) ?_⟩⟩)
        · have hkl : k' < (L p).length := by omega
          have hxk := cx _ (List.getElem_mem hkl)
          rw [← getD_at hkl] at hxk
          have hu8 : rI u 208 p = nI k' := by rw [hu, rI_wI, if_pos ⟨rfl, rfl⟩]
          have Ru := RF_8 R1 hu
          have row4 : ∀ {s2 : sT} {w2 : Nat → Nat}, RF s0 s2 w2 → rI s2 204 (2000 * p + k') = nI ((L p).getD k' 0) := fun R2 => by
            rw [R2.1.1 _ _ rfl, getD_at hkl]
            exact cw.2.2.2.1 k' hkl
          have hi : ((2000 : Int32) * nI p) + nI k' = nI (2000 * p + k') := by rw [show (2000 : Int32) = nI 2000 from rfl, pk_mul, nI_add]
          rw [hu8]
          refine br_f (by rw [← cV_s]; exact neg2 (by omega)) ⟨vp_in_nI (by omega) (by decide), br_f (nI_pos (by omega)) ⟨vp_in_nI (by omega) (by decide), ?_⟩⟩
          rw [hi, nI_clamp (by omega), row4 Ru]
          refine ⟨vp_in_nI (by omega) (by decide), w_mvR_1 hxk h24 (hCs Ru).2.2.2.1 Ru.2 hz (fun s2 F2 N2 => ?_)⟩
          rw [nI_1]
          have R2 : RF s0 s2 (tkW ((L p).getD k' 0) w) := ⟨fr_tr Ru.1 (fr_mo F2 fun a j q => xh_n q), N2⟩
          refine down (h + 1) (k' + 1) (tkW ((L p).getD k' 0) w) acc' s2 (by rw [if_neg (by omega)]) (by omega) R2 (fun j => Nat.le_trans tk_le (hw j)) (rowC_n (rowC_8 P1 (by omega) hu) F2) (by rw [F2.1 _ _ rfl, hu8, cV_s]) (accC_n (accC_8 A1 hu) F2) (fun s3 R3 P3 e3 A3 => ?_)
          rw [cV_s] at e3
          refine e_c12_laysFeast_17 (br_f (nI_pos (by omega)) (e_c12_personMany (br_f (by rw [hPs R3]; exact hne) ⟨vp_in_nI (by omega) (by decide), ?_⟩)))
          rw [nI_clamp (by omega), e3]
          refine br_f (nI_pos (by omega)) ⟨vp_in_nI (by omega) (by decide), ?_⟩
          rw [hi, nI_clamp (by omega), row4 R3]
          refine ⟨vp_in_nI (by omega) (by decide), w_mvR_2 hxk h24 (hCs R3).2.2.2.1 R3.2 hz (fun s4 F4 N4 => ?_)⟩
          rw [show nI (h + 1) + (-1 : Int32) = nI h from pk_m1 _]
          have hsk := chR_skip q j k' (g := g) (by omega) h1 (fun i i1 i2 => g0 i (hno i i1 i2))
          have hqs : q - (k' - j) = (q - (k' - j) - 1) + 1 := by omega
          rw [hsk, hqs] at k1
          have hst : chR g (q - (k' - j) - 1 + 1) k' = g k' ++ chR g (q - (k' - j) - 1) (k' + 1) := rfl
          rw [hst, List.foldl_append, g1 k' hz] at k1
          exact iN (q - (k' - j) - 1) (by omega) (k' + 1) _ s4 (by omega) ⟨fr_tr R3.1 (fr_mo F4 fun a j q => xh_n q), N4⟩ (rowC_n P3 F4) (by rw [F4.1 _ _ rfl, e3, cV_s]) (accC_n A3 F4) k1
        · rw [chR_none q j (fun i i1 i2 => g0 i (hno i i1 (by omega)))] at k1
          exact k1 u (RF_8 R1 hu) (rowC_8 P1 (by omega) hu) (accC_8 A1 hu)
    -- first none
    refine e_c12_laysFeast_17 (br_f (nI_pos (by omega)) (e_c12_personMany (br_f (by rw [hPs R]; exact hne) ⟨vp_in_nI (by omega) (by decide), ?_⟩)))
    rw [nI_clamp (by omega), h2 (by omega)]
    refine br_t (by decide) (e_c12_laysFeast_107 ⟨vp_in_nI (by omega) (by decide), ?_⟩)
    rw [nI_clamp (by omega), h2 (by omega)]
    refine e_c12_choiceBehind (br_t rfl ⟨vp_in_nI (by omega) (by decide), fun u hu => ⟨vp_in_nI (by omega) (by decide), ?_⟩⟩)
    have hu8 : rI u 208 p = cV 0 := by rw [hu, rI_wI, if_pos ⟨rfl, rfl⟩, cV_0]
    rw [hu8, cV_0]
    refine br_f (by decide) ⟨vp_in_nI (by omega) (by decide), br_t (by decide) ?_⟩
    refine down h 0 w acc u (by rw [if_pos rfl, Nat.add_zero]) (by decide) (RF_8 R hu) hw (rowC_8 P (by omega) hu) hu8 (accC_8 A hu) (fun s1 R1 P1 e1 A1 => ?_)
    refine e_c12_laysFeast_17 (br_f (nI_pos (by omega)) (e_c12_personMany (br_f (by rw [hPs R1]; exact hne) ⟨vp_in_nI (by omega) (by decide), ?_⟩)))
    rw [nI_clamp (by omega), e1, cV_0]
    refine br_t (by decide) (ways (kpF (L p)) (kpF (L p)) (Nat.le_refl _) 0 _ s1 (Nat.zero_add _) R1 P1 e1 A1 (fun s' R' P' A' => k s' R' P' ?_))
    rw [List.foldl_append]
    exact A'
theorem w_layF {fin ppl bk : Nat} {L : Nat → List Nat} {lc : List Nat} {w : Nat → Nat} {Q : sT → Prop} {s : sT} (C : OCr s fin ppl bk L lc) (N : NwW s w) (hw : ∀ k, w k ≤ 999) (h : ∀ s', Fr XH s s' → NwW s' w → accC s' ((fRows L ppl 0 w).foldl (upd2 0 []) (0, [])) → Q s') : c12_laysFeast Q s := by
  have o2 := C.2.1
  refine e_c12_laysFeast (fun u1 h1 u2 h2 => ?_)
  have F2 : Fr XH s u2 := by
    rw [h2, h1]
    exact fr_wI (fr_wI fr_rf rfl) rfl
  refine w_layA C ppl 0 0 w [] (0, []) u2 (Nat.zero_add _) rfl (Nat.le_refl _) ⟨F2, fun k hk => by rw [h2, rI_wI, if_neg (by omega), h1, rI_wI, if_neg (by omega)]; exact N k hk⟩ hw trivial (fun _ => by rw [h2, rI_wI, if_pos ⟨rfl, rfl⟩]) ⟨?_, by decide, by decide, trivial⟩ (fun s' R' _ A' => ?_)
  · rw [h2, rI_wI, if_neg (by omega), h1, rI_wI, if_pos ⟨rfl, rfl⟩]
    exact cV_0.symm
  · rw [cV_0]
    exact e_c12_laysFeast_17 (br_t (by decide) (h s' R'.1 R'.2 A'))
theorem op_feast {s : sT} (v : Int32) (I : Inv s) : two Inv (c11_feast v) (c12_feast v) s := by
  obtain ⟨fin, most, ppl, bk, mi, L, lc, cc, w, κ, I⟩ := I
  obtain ⟨-, io, ⟨n1, n2, n3, n4, n5, n6, n7⟩, -⟩ := id I
  obtain ⟨-, -, -, -, -, -, -, OC, OR, -⟩ := id io
  have h24 := OC.1
  have o2 := OC.2.1
  have II := IA_Inv I
  obtain ⟨r0, b1, b2, b3, b4, b5⟩ := fRows_best (L := L) (m := ppl) (p := 0) (w := w)
  -- class, then reference
  have both : ∀ (Qc : Int32 → sT → Prop), (∀ s1, Fr (fun a j => Xk 148 a j || XG a j) s s1 → rowC s1 154 0 r0 → Qc (nI (cnt r0)) s1) → c5_mostSeated Qc s := fun Qc hQ => w_mostS OC n1 n3.1 (fun s1 r F1 R1 e1 => by
    rw [b5] at e1 ⊢
    have e1 : r = r0 := e1
    rw [e1] at R1
    exact hQ s1 F1 R1)
  have fx : ∀ {s1 : sT} {a j : Nat}, Fr (fun a j => Xk 148 a j || XG a j) s s1 → (a < 148 ∨ 151 < a) → a ≠ 154 → rI s1 a j = rI s a j := fun {_ a j} F p q => F.1 _ _ (by
    show (Xk 148 a j || XG a j) = false
    rw [xk_f (by omega), xg_f (by omega) (by omega)]
    rfl)
  have ref : ∀ (A : Int32) s1 (Qr : sT → Prop), Fr (fun a j => Xk 148 a j || XG a j) s s1 → (∀ s2, Inv s2 → rI s2 162 68 = nI (cnt r0) → rowC s2 209 0 r0 → Qr s2) → c12_laysFeast Qr s1 := fun A s1 Qr F1 hQ => by
    have OR1 : OCr s1 fin ppl bk L lc := OCr_fr F1 (fun a j q => by
      show (Xk 148 a j || XG a j) = false
      rw [xk_f (by omega), xg_f (by omega) (by omega)]
      rfl) OR
    refine w_layF OR1 (fun k hk => by rw [fx F1 (by omega) (by omega)]; exact n2 k hk) n3.1 (fun s2 F2 N2 A2 => ?_)
    rw [b5] at A2
    refine hQ s2 ?_ (by rw [A2.1]; exact cV_s) A2.2.2.2
    refine IA_Inv (IA_z I (fr_tr (fr_mo F1 fun a j q => ?_) (fr_mo F2 fun a j q => xz_h q)) N2 (fun j hj => ?_) ?_ ?_)
    · rw [Bool.or_eq_true] at q
      rcases q with q | q
      · refine xz_d (xd_s (xs_t ?_))
        unfold Xk at q
        simp only [Bool.or_eq_true, Bool.and_eq_true, Nat.beq_eq] at q
        omega
      · unfold XG at q
        simp only [Bool.or_eq_true, Nat.beq_eq] at q
        rcases q with rfl | rfl <;> rfl
    · have hx : XH 200 j = false := by
        unfold XH
        rw [Bool.eq_false_iff]
        intro q
        simp only [Bool.or_eq_true, Bool.and_eq_true, Nat.beq_eq, Nat.ble_eq] at q
        omega
      rw [F2.1 _ _ hx, fx F1 (by omega) (by omega)]
    · rw [F2.1 _ _ rfl, fx F1 (by omega) (by omega)]
      exact n6
    · refine k148_fr F2 (fun a j y => by rcases y with rfl | rfl <;> rfl) ?_
      obtain ⟨κ', a, b, f, c, d, e⟩ := n7
      have rr : ∀ a j, (a = 148 ∧ j ≠ 0) ∨ a = 152 → rI s1 a j = rI s a j := fun a j q => F1.1 _ _ (by
        show (Xk 148 a j || XG a j) = false
        unfold Xk XG
        rw [Bool.eq_false_iff]
        intro y
        simp only [Bool.or_eq_true, Bool.and_eq_true, Nat.beq_eq] at y
        omega)
      exact ⟨κ', by rw [rr _ _ (by omega)]; exact a, b, f, c, by rw [rr _ _ (by omega)]; exact d, fun k hk j hj => by rw [rr _ _ (by omega)]; exact e k hk j hj⟩
  by_cases hv : v = -1
  · subst hv
    refine e_c11_feast (br_t rfl (both _ (fun s1 F1 R1 => br_t rfl (e_c12_feast (br_t rfl (ref 0 s1 _ F1 (fun s2 I2 e2 R2 => br_t rfl ⟨e2.symm, I2⟩)))))))
  · by_cases h : ∃ p, p < ppl ∧ v = nI p
    · obtain ⟨p, hp, rfl⟩ := h
      refine e_c11_feast (br_f hv (perC_t OC.2.2.2.2.1 o2 hp (yes1 (both _ (fun s1 F1 R1 => br_f hv ⟨vp_in_nI (by omega) (by decide), e_c12_feast (br_f hv (perR_t (by rw [fx F1 (by omega) (by omega)]; exact OR.2.2.2.2.1) o2 hp (yes1 (ref 0 s1 _ F1 (fun s2 I2 e2 R2 => br_f hv ⟨vp_in_nI (by omega) (by decide), ?_, I2⟩)))))⟩)))))
      have q1 := rowC_at R1 (k := p) (by omega)
      have q2 := rowC_at R2 (k := p) (by omega)
      rw [Nat.zero_add] at q1 q2
      rw [nI_clamp (by omega), q1, q2]
    · exact e_c11_feast (br_f hv (perC_f OC.2.2.2.2.1 o2 h (no0 (e_c12_feast (br_f hv (perR_f OR.2.2.2.2.1 o2 h (no0 ⟨rfl, II⟩)))))))
