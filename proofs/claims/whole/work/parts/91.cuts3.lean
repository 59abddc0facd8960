def cutN (L : Nat → List Nat) (lc : List Nat) (fin ppl bk : Nat) (w : Nat → Nat) : Nat → Nat → Option (Nat × (Nat → Nat))
  | 0, _ => none
  | n + 1, m => match srch (okC L lc ppl bk w m) fin m 3000 (fun _ => 2) with
    | some r => some (m, r)
    | none => cutN L lc fin ppl bk w n (m + 1)
theorem rwV_2 {fin m : Nat} (h : 2 ≤ fin) : rwV fin m (fun _ => 2) := ⟨fun _ _ => ⟨Nat.le_refl _, h⟩, fun _ _ _ _ => Nat.le_refl _⟩
/-- the numbers of an answer, as they stand in a row of cells -/
def cutS (s : sT) (a : Nat) (o : Option (Nat × (Nat → Nat))) (y : Int32) : Prop := match o with
  | none => y = -1
  | some (m, r) => m ≤ 3 ∧ y = nI m ∧ rwC s a m r
theorem w_fewC {fin ppl bk : Nat} {L : Nat → List Nat} {lc : List Nat} {w : Nat → Nat} {Q : Int32 → sT → Prop} {s0 : sT} (C : OCc s0 fin ppl bk L lc) (hf : 2 ≤ fin) (W : StW s0 38 w) (hV : wV fin ppl w) (h0 : w 0 ≤ 998) (K0 : K148 s0) (h : ∀ s' y, Fr XU s0 s' → K148 s' → cutS s' 153 (cutN L lc fin ppl bk w ((if w 1 < 3 then w 1 else 3) + 1) 0) y → Q y s') : c5_fewestCuts Q s0 := by
  have h24 := C.1
  have hw1 := hV.1 1
  generalize hM : (if w 1 < 3 then w 1 else 3) = mst at h
  have hm3 : mst ≤ 3 ∧ mst ≤ w 1 := by
    rw [← hM]
    split <;> omega
  refine e_c5_fewestCuts (fun x hx => ?_)
  rw [W.2.2.1 1 (by decide) (by decide), min_nI (c := (3 : Int32)) (b := 3) rfl (by omega) (by decide), hM] at hx
  rw [hx]
  have main : ∀ n m s, m + n = mst + 1 → Fr XU s0 s → K148 s → (∀ s' y, Fr XU s0 s' → K148 s' → cutS s' 153 (cutN L lc fin ppl bk w n m) y → Q y s') → c5_fewestCuts_16 (nI mst) (nI m) Q s := by
    intro n
    induction n with
    | zero =>
      intro m s e F K h
      exact e_c5_fewestCuts_16 (br_t (nI_lt (by omega) (by omega)) (h s (-1) F K rfl))
    | succ n ih =>
      intro m s e F K h
      unfold cutN at h
      refine e_c5_fewestCuts_16 (br_f (nI_nlt (by omega) (by omega)) (e_c5_fillCutRow (w_fillC (x := 2) 3 0 s (by decide) (fun s1 F1 g => ?_))))
      have K1 : K148 s1 := k148_fr F1 (fun a j z => by rcases z with rfl | rfl <;> rfl) K
      refine w_srchC C W hV h0 (m := m) (by omega) (by omega) (nI mst) 3000 0 (fun _ => 2) s1 (rk_lt h24) (by have := rk_lt (m := m) h24; omega) (fr_tr F (fr_mo F1 fun a j q => xu_3 q)) K1 (rwV_2 hf) (fun k hk => by rw [g k (by omega), if_neg (by omega)]) (fun s2 r2 F2 K2 R2 e2 => ?_) (fun s2 F2 K2 e2 => ?_)
      · rw [e2] at h
        exact h s2 _ F2 K2 ⟨by omega, rfl, R2⟩
      · rw [e2] at h
        exact ih (m + 1) s2 (by omega) F2 K2 h
  exact main (mst + 1) 0 s0 (by omega) fr_rf K0 h
-- the reference
def XTt (a j : Nat) : Bool := Xq a j || Nat.beq a 202
theorem xt_f {a j : Nat} (h : a ≠ 239) (h2 : a ≠ 162) (h3 : a ≠ 200) (h4 : a ≠ 202) : XTt a j = false := by
  unfold XTt
  rw [xq_f h h2 h3, Bool.false_or, Bool.eq_false_iff]
  intro z
  exact h4 (Nat.beq_eq.mp z)
theorem xt_q {a j : Nat} (h : Xq a j = true) : XTt a j = true := by unfold XTt; rw [h]; rfl
theorem xt_2 {a j : Nat} (h : (fun a _ => Nat.beq a 202 : Nat → Nat → Bool) a j = true) : XTt a j = true := by
  unfold XTt
  rw [show Nat.beq a 202 = true from h, Bool.or_true]
theorem xz_t {a j : Nat} (h : XTt a j = true) : Xz a j = true := by
  unfold XTt at h
  rw [Bool.or_eq_true] at h
  rcases h with q | q
  · exact xz_q q
  · rw [Nat.beq_eq.mp q]
    rfl
theorem xt_n {a j : Nat} (h : Xn a j = true) : XTt a j = true := by
  unfold Xn at h
  simp only [Bool.and_eq_true, Nat.beq_eq] at h
  rw [h.1]
  rfl
theorem xn_37 {j : Nat} (h : 37 ≤ j) : Xn 200 j = false := by
  unfold Xn
  rw [Bool.eq_false_iff]
  intro z
  simp only [Bool.and_eq_true, Nat.beq_eq, Nat.ble_eq] at z
  omega
theorem w_addR {fin m : Nat} {r : Nat → Nat} {Q : Int32 → sT → Prop} {s0 : sT} (hf : fin ≤ 24) (V : rwV fin m r) (hm : m ≤ 3) (R : rwC s0 202 m r) : ∀ n k w s, k + n = m → Fr (fun a j => Nat.beq a 200 && Nat.ble j 36) s0 s → NwW s w → wM w → (∀ s', Fr (fun a j => Nat.beq a 200 && Nat.ble j 36) s0 s' → NwW s' (cuL r n k w) → c12_dayGoes (fun u4 => c12_triesAnew (fun u5 => c12_personMany (fun y6 u7 => ((rI u5 162 63) = (((1 : Int32) <<< (y6 &&& 31)) - (1 : Int32)) → Q (1 : Int32) u7) ∧ (¬ (rI u5 162 63) = (((1 : Int32) <<< (y6 &&& 31)) - (1 : Int32)) → Q (0 : Int32) u7)) u5) u4) s') → c12_isEnough_12 (nI m) (nI k) Q s
  | 0, k, w, s, e, F, N, hM, h => by
    have e : k = m := e
    subst e
    exact e_c12_isEnough_12 (br_f (nI_nlt (Nat.le_refl _) (by omega)) (h s F N))
  | n + 1, k, w, s, e, F, N, hM, h => by
    have hv := V.1 k (by omega)
    have hw := hM.2 (r k) (by omega)
    refine e_c12_isEnough_12 (br_t (nI_lt (by omega) (by omega)) ?_)
    have r2 : ∀ j, rI s 202 j = rI s0 202 j := fun j => F.1 _ _ rfl
    rw [nI_clamp (by omega), r2, R k (by omega), nI_clamp (by omega), N _ (by omega), nI_add]
    refine ⟨vp_in_nI (by omega) (by decide), vp_in_nI (by omega) (by decide), vp_in_nI (by omega) (by decide), vp_in_nI (by omega) (by decide), lessOf_nI (a := 999) (by decide) (by omega) ⟨?_, fun u hu => ?_⟩⟩
    · exact vp_in_nI (by omega) (by decide)
    · rw [nI_1]
      refine w_addR hf V hm R n (k + 1) _ u (by omega) ?_ (NwW_1 N hu) (uN_M hM (by omega) (by split <;> omega)) h
      rw [hu]
      refine fr_wI F ?_
      show (Nat.beq 200 200 && Nat.ble (r k) 36) = true
      rw [Bool.and_eq_true, Nat.ble_eq]
      exact ⟨rfl, by omega⟩
theorem ones_i {n : Nat} (h : n ≤ 6) : ((1 : Int32) <<< (nI n &&& 31)) - (1 : Int32) = nI (2 ^ n - 1) := by
  rw [one_shl (by omega), show (1 : Int32) = nI 1 from rfl, pk_sub (Nat.two_pow_pos n)]
theorem w_enoughR {fin ppl bk m : Nat} {L : Nat → List Nat} {lc : List Nat} {w r : Nat → Nat} {Q : Int32 → sT → Prop} {s : sT} (C : OCr s fin ppl bk L lc) (ht : rI s 162 64 = 1) (A : asW s w) (N : NwW s w) (hV : wV fin ppl w) (hm : m ≤ 3) (hm1 : m ≤ w 1) (V : rwV fin m r) (R : rwC s 202 m r) (g1 : ∀ s', Fr Xq s s' → NwW s' w → (∀ j, 37 ≤ j → rI s' 200 j = rI s 200 j) → okC L lc ppl bk w m r = true → Q 1 s') (g0 : ∀ s', Fr Xq s s' → NwW s' w → (∀ j, 37 ≤ j → rI s' 200 j = rI s 200 j) → ¬ okC L lc ppl bk w m r = true → Q 0 s') : c12_isEnough (nI m) Q s := by
  have h24 := C.1
  have o2 := C.2.1
  have hw1 := hV.1 1
  have hMw : wM (uN w 1 (w 1 - m)) := uN_M (wV_M hV) (by decide) (by omega)
  refine e_c12_isEnough (fun u hu => ?_)
  rw [N 1 (by decide), pk_sub hm1] at hu
  have Fu : Fr (fun a j => Nat.beq a 200 && Nat.ble j 36) s u := by rw [hu]; exact fr_wI fr_rf rfl
  refine w_addR h24 V hm (fun k hk => by rw [Fu.1 _ _ rfl]; exact R k hk) m 0 _ u (Nat.zero_add _) fr_rf (NwW_1 N hu) hMw (fun s1 F1 N1 => ?_)
  have F1' : Fr (fun a j => Nat.beq a 200 && Nat.ble j 36) s s1 := fr_tr Fu F1
  have Fq : Fr Xq s s1 := fr_mo F1' (fun a j q => by
    simp only [Bool.and_eq_true, Nat.beq_eq] at q
    rw [q.1]
    rfl)
  have G1 : ∀ j, 37 ≤ j → rI s1 200 j = rI s 200 j := fun j hj => F1'.1 _ _ (xn_37 hj)
  have hr2 : ∀ j, j < 0 + m → 2 ≤ r j := fun j hj => (V.1 j (by omega)).1
  have hMc : wM (cutW w m r) := cuL_M hMw hr2
  refine w_dayGoes (κ := (0, fun _ _ => 0)) (th := true) (OCr_fr Fq (fun a j q => xq_f (by omega) (by omega) (by omega)) C) (by rw [Fq.1 _ _ rfl, ht]; rfl) fr_rf N1 ⟨fun _ _ _ => rfl, fun q => by cases q⟩ hMc (fun s2 k1 k2 k3 k4 k5 => ?_)
  have F2 : Fr Xq s s2 := fr_tr Fq k1
  refine w_triesAnew (fun k hk => by rw [F2.1 _ _ (xq_f (by omega) (by omega) (by omega))]; exact A k hk) (fun s3 F3 N3 => ?_)
  have F3' : Fr Xq s s3 := fr_tr F2 (fr_mo F3 (fun a j q => by
    unfold Xn at q
    simp only [Bool.and_eq_true, Nat.beq_eq] at q
    rw [q.1]
    rfl))
  have G3 : ∀ j, 37 ≤ j → rI s3 200 j = rI s 200 j := fun j hj => by rw [F3.1 _ _ (xn_37 hj), k3.1 rfl j hj, G1 j hj]
  refine e_c12_personMany ?_
  have hw6 := dayF_w (L := L) (lc := lc) (ppl := ppl) (bk := bk) (w := cutW w m r) (κ := (0, fun _ _ => 0)) o2
  have h2 : 2 ^ ppl ≤ 2 ^ 6 := Nat.pow_le_pow_right (by decide) o2
  have e63 : rI s3 162 63 = nI (dayF L lc ppl bk (cutW w m r) (0, fun _ _ => 0)).2.2 := by rw [F3.1 _ _ rfl]; exact k4
  rw [e63, F3'.1 _ _ rfl, C.2.2.2.2.1, ones_i o2, nI_eq (by omega) (by omega)]
  refine br_c (fun q => g1 s3 F3' N3 G3 (okC_iff.2 q)) (fun q => g0 s3 F3' N3 G3 (fun y => q (okC_iff.1 y)))
theorem w_copyR {m k x : Nat} {Q : Int32 → sT → Prop} (hm : m ≤ 3) (hk : k < m) : ∀ n j s, j + n = m → k < j → rI s 202 k = nI x → (∀ s', Fr (fun a _ => Nat.beq a 202) s s' → (∀ i, i < m → rI s' 202 i = if j ≤ i then nI x else rI s 202 i) → Q 1 s') → c12_goesOn_47 (nI m) (nI k) (nI j) Q s
  | 0, j, s, e, hj, hx, h => by
    have e : j = m := e
    subst e
    exact e_c12_goesOn_47 (br_f (nI_nlt (Nat.le_refl _) (by omega)) (h s fr_rf (fun i hi => by rw [if_neg (by omega)])))
  | n + 1, j, s, e, hj, hx, h => by
    refine e_c12_goesOn_47 (br_t (nI_lt (by omega) (by omega)) ⟨vp_in_nI (by omega) (by decide), vp_in_nI (by omega) (by decide), fun u hu => ?_⟩)
    rw [nI_clamp (by omega), nI_clamp (by omega), hx] at hu
    rw [nI_1]
    refine w_copyR hm hk n (j + 1) u (by omega) (by omega) (by rw [hu, rI_wI, if_neg (by omega)]; exact hx) (fun s' F g => h s' (fr_tr (by rw [hu]; exact fr_wI fr_rf rfl) F) (fun i hi => ?_))
    rw [g i hi, hu, rI_wI]
    by_cases q : i = j
    · rw [if_neg (by omega), if_pos ⟨rfl, q⟩, if_pos (by omega)]
    · by_cases q2 : j ≤ i
      · rw [if_pos (by omega), if_pos q2]
      · rw [if_neg (by omega), if_neg (by omega), if_neg q2]
theorem w_nextR {fin m : Nat} {r : Nat → Nat} {Q : Int32 → sT → Prop} {s : sT} (hF : rI s 193 5 = nI fin) (hf : fin ≤ 24) (hm : m ≤ 3) (V : rwV fin m r) (R : rwC s 202 m r) : ∀ k, k ≤ m → (∀ s' r', Fr (fun a _ => Nat.beq a 202) s s' → rwC s' 202 m r' → nxK fin k r = some r' → Q 1 s') → (nxK fin k r = none → Q 0 s) → c12_goesOn_4 (nI m) (nI k + (-1 : Int32)) Q s
  | 0, _, h1, h0 => e_c12_goesOn_4 (br_t (by decide) (br_t (by decide) (h0 rfl)))
  | k + 1, hk, h1, h0 => by
    have hv := V.1 k (by omega)
    rw [pk_m1]
    refine e_c12_goesOn_4 (br_f (nI_pos (by omega)) ⟨vp_in_nI (by omega) (by decide), e_c12_finest ?_⟩)
    unfold nxK at h1 h0
    rw [nI_clamp (by omega), R k (by omega), hF, nI_eq (by omega) (by omega), nI_1, nI_1]
    refine br_c (fun q => ?_) (fun q => br_f (nI_pos (by omega)) ⟨vp_in_nI (by omega) (by decide), vp_in_nI (by omega) (by decide), fun u hu x hx => ?_⟩)
    · rw [if_neg (by omega)] at h1 h0
      exact w_nextR hF hf hm V R k (by omega) h1 h0
    · rw [if_pos (by omega)] at h1
      rw [hx]
      refine w_copyR hm (by omega) (m - (k + 1)) (k + 1) u (by omega) (by omega) (by rw [hu, rI_wI, if_pos ⟨rfl, rfl⟩]) (fun s' F g => h1 s' _ (fr_tr (by rw [hu]; exact fr_wI fr_rf rfl) F) (fun i hi => ?_) rfl)
      rw [g i hi, hu, rI_wI]
      by_cases q1 : i < k
      · rw [if_neg (by omega), if_neg (by omega), if_pos q1]; exact R i (by omega)
      · rw [if_neg q1]
        by_cases q2 : i = k
        · rw [if_neg (by omega), if_pos ⟨rfl, q2⟩]
        · rw [if_pos (by omega)]
theorem w_srchR {fin ppl bk m : Nat} {L : Nat → List Nat} {lc : List Nat} {w : Nat → Nat} {Q : Int32 → sT → Prop} {s0 : sT} (C : OCr s0 fin ppl bk L lc) (ht : rI s0 162 64 = 1) (A : asW s0 w) (hV : wV fin ppl w) (hm : m ≤ 3) (hm1 : m ≤ w 1) : ∀ f r s, rk fin m r < f → Fr XTt s0 s → NwW s w → (∀ j, 37 ≤ j → rI s 200 j = rI s0 200 j) → rwV fin m r → rwC s 202 m r → (∀ s' r', Fr XTt s0 s' → NwW s' w → (∀ j, 37 ≤ j → rI s' 200 j = rI s0 200 j) → rwC s' 202 m r' → srch (okC L lc ppl bk w m) fin m f r = some r' → Q 1 s') → (∀ s', Fr XTt s0 s' → NwW s' w → (∀ j, 37 ≤ j → rI s' 200 j = rI s0 200 j) → srch (okC L lc ppl bk w m) fin m f r = none → Q 0 s') → c12_isFoundBy_22 (nI m) (1 : Int32) Q s := by
  intro f
  have h24 := C.1
  induction f with
  | zero => intro r s e; omega
  | succ f ih =>
    intro r s e F N G V R h1 h2
    unfold srch at h1 h2
    have Cs : OCr s fin ppl bk L lc := OCr_fr F (fun a j q => xt_f (by omega) (by omega) (by omega) (by omega)) C
    refine e_c12_isFoundBy_22 (br_f (by decide) (w_enoughR Cs (by rw [F.1 _ _ rfl]; exact ht) (fun k hk => by rw [F.1 _ _ rfl]; exact A k hk) N hV hm hm1 V R (fun s1 F1 N1 G1 q => yes1 ?_) (fun s1 F1 N1 G1 q => no0 ?_)))
    · rw [if_pos q] at h1
      exact h1 s1 r (fr_tr F (fr_mo F1 fun a j q => xt_q q)) N1 (fun j hj => by rw [G1 j hj]; exact G j hj) (fun k hk => by rw [F1.1 _ _ rfl]; exact R k hk) rfl
    · rw [if_neg q] at h1 h2
      have F1' : Fr XTt s0 s1 := fr_tr F (fr_mo F1 fun a j q => xt_q q)
      have G1' : ∀ j, 37 ≤ j → rI s1 200 j = rI s0 200 j := fun j hj => by rw [G1 j hj]; exact G j hj
      have R1 : rwC s1 202 m r := fun k hk => by rw [F1.1 _ _ rfl]; exact R k hk
      refine e_c12_goesOn (fun x hx => ?_)
      have ex : x = nI m + (-1 : Int32) := by rw [hx, Int32.sub_eq_add_neg]
      rw [ex]
      refine w_nextR (by rw [F1'.1 _ _ rfl]; exact C.2.2.2.1) h24 hm V R1 m (Nat.le_refl _) (fun s2 r2 F2 R2 e3 => ?_) (fun e3 => ?_)
      · rw [e3] at h1 h2
        have e4 := nxK_rk hm V e3
        exact ih r2 s2 (by omega) (fr_tr F1' (fr_mo F2 fun a j q => xt_2 q)) (fun k hk => by rw [F2.1 _ _ rfl]; exact N1 k hk) (fun j hj => by rw [F2.1 _ _ rfl]; exact G1' j hj) (nxK_V V (Nat.le_refl _) e3) R2 h1 h2
      · rw [e3] at h2
        exact e_c12_isFoundBy_22 (br_t rfl (h2 s1 F1' N1 G1' rfl))
theorem w_twosR {m : Nat} {Q : Int32 → sT → Prop} (hm : m ≤ 3) : ∀ n k s, k + n = m → (∀ j, j < k → rI s 202 j = nI 2) → (∀ s', Fr (fun a _ => Nat.beq a 202) s s' → rwC s' 202 m (fun _ => 2) → c12_isFoundBy_22 (nI m) (1 : Int32) Q s') → c12_isFoundBy_2 (nI m) (nI k) Q s
  | 0, k, s, e, g, h => by
    have e : k = m := e
    subst e
    exact e_c12_isFoundBy_2 (br_f (nI_nlt (Nat.le_refl _) (by omega)) (h s fr_rf g))
  | n + 1, k, s, e, g, h => by
    refine e_c12_isFoundBy_2 (br_t (nI_lt (by omega) (by omega)) ⟨vp_in_nI (by omega) (by decide), fun u hu => ?_⟩)
    rw [nI_clamp (by omega)] at hu
    rw [nI_1]
    refine w_twosR hm n (k + 1) u (by omega) (fun j hj => ?_) (fun s' F R => h s' (fr_tr (by rw [hu]; exact fr_wI fr_rf rfl) F) R)
    rw [hu, rI_wI]
    by_cases q : j = k
    · rw [if_pos ⟨rfl, q⟩]
      rfl
    · rw [if_neg (by omega)]
      exact g j (by omega)
/-- a number of an answer: -1 how many, k the k-th -/
def cutA (o : Option (Nat × (Nat → Nat))) (v : Int32) : Int32 := match o with
  | none => -1
  | some (m, r) => if v = -1 then nI m else if v.toInt < m then nI (r v.toNatClampNeg) else -1
theorem w_cutsR {fin ppl bk : Nat} {L : Nat → List Nat} {lc : List Nat} {w : Nat → Nat} {v : Int32} {Q : Int32 → sT → Prop} {s : sT} (C : OCr s fin ppl bk L lc) (hf : 2 ≤ fin) (N : NwW s w) (hV : wV fin ppl w) (hv : v = -1 ∨ ∃ k, k < 3 ∧ v = nI k) (h : ∀ s', Fr Xz s s' → NwW s' w → rI s' 162 64 = 0 → (∀ j, 37 ≤ j → rI s' 200 j = rI s 200 j) → (∀ a j, (a = 148 ∨ a = 152) → rI s' a j = rI s a j) → Q (cutA (cutN L lc fin ppl bk w ((if w 1 < 3 then w 1 else 3) + 1) 0) v) s') : c12_putsAside (fun u5 => c12_cuts_34 v (-1 : Int32) (0 : Int32) Q u5) s := by
  have h24 := C.1
  have hw1 := hV.1 1
  generalize hM : (if w 1 < 3 then w 1 else 3) = mst at h
  have hm3 : mst ≤ 3 ∧ mst ≤ w 1 := by
    rw [← hM]
    split <;> omega
  refine w_putsAside N (fun s0 F0 A0 t0 => ?_)
  have C0 : OCr s0 fin ppl bk L lc := OCr_fr F0 (fun a j q => by rcases q with rfl | rfl | rfl | rfl | rfl | rfl <;> rfl) C
  -- the end
  have done : ∀ (o : Option (Nat × (Nat → Nat))) s1 y, Fr XTt s0 s1 → (∀ j, 37 ≤ j → rI s1 200 j = rI s0 200 j) → cutS s1 202 o y → (∀ s', Fr Xz s s' → NwW s' w → rI s' 162 64 = 0 → (∀ j, 37 ≤ j → rI s' 200 j = rI s 200 j) → (∀ a j, (a = 148 ∨ a = 152) → rI s' a j = rI s a j) → Q (cutA o v) s') → c12_takesBack (fun u6 => (v = (-1 : Int32) → Q y u6) ∧ (¬ v = (-1 : Int32) → (v < y → vp_in v 6 ∧ (Q (rI u6 202 v.toNatClampNeg) u6)) ∧ (¬ v < y → Q (-1 : Int32) u6))) s1 := by
    intro o s1 y F1 G1 S1 hQ
    refine w_takesBack (fun k hk => by rw [F1.1 _ _ rfl]; exact A0 k hk) (fun s2 F2 N2 t2 => ?_)
    have hQ2 : Q (cutA o v) s2 := by
      refine hQ s2 (fr_tr (fr_mo F0 fun a j q => xz_a q) (fr_tr (fr_mo F1 fun a j q => xz_t q) (fr_mo F2 fun a j q => xz_n q))) N2 t2 (fun j hj => ?_) (fun a j hj => ?_)
      · rw [F2.1 _ _ (by show (Xn 200 j || (Nat.beq 200 162 && Nat.beq j 64)) = false; rw [xn_37 hj]; rfl), G1 j hj, F0.1 _ _ rfl]
      · have e1 : rI s2 a j = rI s1 a j := F2.1 _ _ (by rcases hj with rfl | rfl <;> rfl)
        have e2 : rI s1 a j = rI s0 a j := F1.1 _ _ (by rcases hj with rfl | rfl <;> rfl)
        have e3 : rI s0 a j = rI s a j := F0.1 _ _ (by rcases hj with rfl | rfl <;> rfl)
        rw [e1, e2, e3]
    have r202 : ∀ j, rI s2 202 j = rI s1 202 j := fun j => F2.1 _ _ rfl
    cases o with
    | none =>
      have S1 : y = -1 := S1
      have hQ2 : Q (-1) s2 := hQ2
      subst S1
      rcases hv with rfl | ⟨k, hk, rfl⟩
      · exact br_t rfl hQ2
      · refine br_f (nI_nm (by omega)) (br_f ?_ hQ2)
        rw [fa_lt, nI_toInt (by omega)]
        show ¬ (k : Int) < -1
        omega
    | some mr =>
      obtain ⟨m, r⟩ := mr
      obtain ⟨S1, S2, S3⟩ : m ≤ 3 ∧ y = nI m ∧ rwC s1 202 m r := S1
      have hQ2 : Q (if v = -1 then nI m else if v.toInt < m then nI (r v.toNatClampNeg) else -1) s2 := hQ2
      subst S2
      rcases hv with rfl | ⟨k, hk, rfl⟩
      · rw [if_pos rfl] at hQ2
        exact br_t rfl hQ2
      · rw [if_neg (nI_nm (by omega)), nI_toInt (by omega), nI_clamp (by omega)] at hQ2
        refine br_f (nI_nm (by omega)) ?_
        rw [nI_ltI (by omega) (by omega)]
        refine br_c (fun q => ?_) (fun q => ?_)
        · rw [if_pos (by omega)] at hQ2
          refine ⟨vp_in_nI (by omega) (by decide), ?_⟩
          rw [nI_clamp (by omega), r202, S3 k q]
          exact hQ2
        · rw [if_neg (by omega)] at hQ2
          exact hQ2
  have e207 : ∀ s1, Fr XTt s0 s1 → rI s1 207 1 = nI (w 1) := fun s1 F1 => by rw [F1.1 _ _ rfl]; exact A0 1 (by decide)
  have less : ∀ (s1 : sT) (P : Int32 → sT → Prop), Fr XTt s0 s1 → P (nI mst) s1 → c12_lessOf (3 : Int32) (rI s1 207 1) P s1 := fun s1 P F1 hP => by
    rw [e207 s1 F1]
    refine lessOf_nI (a := 3) (by decide) (by omega) ?_
    rw [hM]
    exact hP
  have main : ∀ n m s1, m + n = mst + 1 → Fr XTt s0 s1 → NwW s1 w → (∀ j, 37 ≤ j → rI s1 200 j = rI s0 200 j) → (∀ s', Fr Xz s s' → NwW s' w → rI s' 162 64 = 0 → (∀ j, 37 ≤ j → rI s' 200 j = rI s 200 j) → (∀ a j, (a = 148 ∨ a = 152) → rI s' a j = rI s a j) → Q (cutA (cutN L lc fin ppl bk w n m) v) s') → c12_cuts_34 v (-1 : Int32) (nI m) Q s1 := by
    intro n
    induction n with
    | zero =>
      intro m s1 e F1 N1 G1 hQ
      exact e_c12_cuts_34 (less s1 _ F1 (br_t (nI_lt (by omega) (by omega)) (done none s1 (-1) F1 G1 rfl hQ)))
    | succ n ih =>
      intro m s1 e F1 N1 G1 hQ
      unfold cutN at hQ
      refine e_c12_cuts_34 (less s1 _ F1 (br_f (nI_nlt (by omega) (by omega)) (br_t rfl (e_c12_isFoundBy (w_twosR (by omega) m 0 s1 (Nat.zero_add _) (fun j hj => by omega) (fun s2 F2 R2 => ?_))))))
      have F2' : Fr XTt s0 s2 := fr_tr F1 (fr_mo F2 fun a j q => xt_2 q)
      refine w_srchR C0 t0 A0 hV (m := m) (by omega) (by omega) 3000 (fun _ => 2) s2 (rk_lt h24) F2' (fun k hk => by rw [F2.1 _ _ rfl]; exact N1 k hk) (fun j hj => by rw [F2.1 _ _ rfl]; exact G1 j hj) (rwV_2 hf) R2 (fun s3 r3 F3 N3 G3 R3 e3 => ?_) (fun s3 F3 N3 G3 e3 => ?_)
      · rw [e3] at hQ
        refine yes1 ?_
        have dn := done (some (m, r3)) s3 (nI m) F3 G3 ⟨by omega, rfl, R3⟩ hQ
        rw [nI_1]
        exact e_c12_cuts_34 (less s3 _ F3 (br_c (fun _ => dn) (fun _ => br_f (nI_nm (by omega)) dn)))
      · rw [e3] at hQ
        refine no0 ?_
        rw [nI_1]
        exact ih (m + 1) s3 (by omega) F3 N3 G3 hQ
  exact main (mst + 1) 0 s0 (by omega) fr_rf (NwW_fr F0 (fun _ _ => rfl) N) (fun _ _ => rfl) h
theorem op_cuts {s : sT} (v : Int32) (I : Inv s) : two Inv (c11_cuts v) (c12_cuts v) s := by
  obtain ⟨fin, most, ppl, bk, mi, L, lc, cc, w, κ, I⟩ := I
  obtain ⟨-, io, ⟨n1, n2, n3, n4, n5, n6, n7⟩, -⟩ := id I
  obtain ⟨hfo, -, -, -, -, -, -, OC, OR, -⟩ := id io
  have hd0 := n3.1 0
  have h24 := OC.1
  have II := IA_Inv I
  have noR : (fin = 0 ∨ ¬ w 0 ≤ 998) → c12_cuts v (fun r2 s2 => -1 = r2 ∧ Inv s2) s := fun z => by
    refine e_c12_cuts (ahR_f (v := 1) (lo := 1) (hi := 1) (n2 0 (by omega)) hd0 (by decide) (by decide) ?_ (no0 ⟨rfl, II⟩))
    rcases z with z | z
    · exact Or.inl (IO_not io z).2.2
    · refine Or.inr ?_
      rintro ⟨n, a, b, c, -⟩
      omega
  by_cases hf : fin = 0
  · subst hf
    exact e_c11_cuts (offC_f OC.2.2.2.1 (no0 (noR (Or.inl rfl))))
  have hf2 : 2 ≤ fin := by
    rcases hfo with q | q
    · exact q.1
    · exact absurd q.1 hf
  refine e_c11_cuts (offC_t OC.2.2.2.1 h24 (by omega) (yes1 ?_))
  by_cases h9 : w 0 ≤ 998
  · have ht := (IO_told io (by omega)).2.1
    refine br_t (by rw [n1.1]; exact nI_lt (b := 999) (by omega) (by decide)) ?_
    by_cases hv : v = -1 ∨ ∃ k, k < 3 ∧ v = nI k
    · have hr := fb_rng v
      have hv1 : -1 ≤ v.toInt ∧ v.toInt < 3 := by
        rcases hv with rfl | ⟨k, hk, rfl⟩
        · decide
        · rw [nI_toInt (by omega)]; omega
      refine br_f (by rw [fa_lt, show (-1 : Int32).toInt = -1 from rfl]; omega) (br_t (by rw [fa_lt, show (3 : Int32).toInt = 3 from rfl]; omega) (w_fewC OC hf2 n1 n3 h9 n7 (fun s1 y F1 K1 S1 => ?_)))
      have r1 : ∀ a j, a ≠ 31 → a ≠ 146 → (a < 148 ∨ 153 < a) → rI s1 a j = rI s a j := fun a j p q r => F1.1 _ _ (xu_f r q p)
      have N1 : NwW s1 w := fun k hk => by rw [r1 _ _ (by omega) (by omega) (by omega)]; exact n2 k hk
      have OR1 : OCr s1 fin ppl bk L lc := OCr_fr F1 (fun a j q => xu_f (by omega) (by omega) (by omega)) OR
      have ref : ∀ A, A = cutA (cutN L lc fin ppl bk w ((if w 1 < 3 then w 1 else 3) + 1) 0) v → c12_cuts v (fun r2 s2 => A = r2 ∧ Inv s2) s1 := fun A hA => by
        refine e_c12_cuts (ahR_t (n := 1) (lo := 1) (hi := 1) (by rw [r1 _ _ (by omega) (by omega) (by omega)]; exact ht) (N1 0 (by omega)) (by decide) (by decide) (by decide) (by omega) (yes1 (isIn_t ?_ (yes1 (w_cutsR OR1 hf2 N1 n3 hv (fun s4 F4 N4 t4 g4 k4 => ⟨hA, ?_⟩))))))
        · rw [wide]
          exact ⟨hv1.1, by show v.toInt ≤ 2; omega⟩
        · refine IA_Inv (IA_z I (fr_tr (fr_mo F1 fun a j q => ?_) F4) N4 (fun j hj => ?_) t4 ?_)
          · unfold XU at q
            rw [Bool.or_eq_true] at q
            rcases q with q | q
            · exact xz_d q
            · rw [Nat.beq_eq.mp q]
              rfl
          · rw [g4 j hj, r1 _ _ (by omega) (by omega) (by omega)]
          · obtain ⟨κ', a, b, f, c, d, e⟩ := K1
            exact ⟨κ', by rw [k4 _ _ (by omega)]; exact a, b, f, c, by rw [k4 _ _ (by omega)]; exact d, fun k hk j hj => by rw [k4 _ _ (by omega)]; exact e k hk j hj⟩
      generalize cutN L lc fin ppl bk w ((if w 1 < 3 then w 1 else 3) + 1) 0 = o at S1 ref
      cases o with
      | none =>
        have S1 : y = -1 := S1
        subst S1
        refine br_c (fun _ => ref _ rfl) (fun q => ?_)
        rcases hv with rfl | ⟨k, hk, rfl⟩
        · exact absurd rfl q
        · refine br_f ?_ (ref _ rfl)
          rw [fa_lt, nI_toInt (by omega)]
          show ¬ (k : Int) < -1
          omega
      | some mr =>
        obtain ⟨m, r⟩ := mr
        obtain ⟨S1, S2, S3⟩ : m ≤ 3 ∧ y = nI m ∧ rwC s1 153 m r := S1
        have ref : ∀ A, A = (if v = -1 then nI m else if v.toInt < m then nI (r v.toNatClampNeg) else -1) → c12_cuts v (fun r2 s2 => A = r2 ∧ Inv s2) s1 := ref
        subst S2
        rcases hv with rfl | ⟨k, hk, rfl⟩
        · exact br_t rfl (ref _ (by rw [if_pos rfl]))
        · rw [if_neg (nI_nm (by omega)), nI_toInt (by omega), nI_clamp (by omega)] at ref
          refine br_f (nI_nm (by omega)) ?_
          rw [nI_ltI (by omega) (by omega), nI_clamp (by omega)]
          refine br_c (fun q => ⟨vp_in_nI (by omega) (by decide), ?_⟩) (fun q => ?_)
          · rw [S3 k q]
            exact ref _ (by rw [if_pos (by omega)])
          · exact ref _ (by rw [if_neg (by omega)])
    · have hno : ¬ (-1 ≤ v.toInt ∧ v.toInt ≤ 2) := fun q => hv (by
        rcases Int.lt_or_le v.toInt 0 with z | z
        · refine Or.inl ((fa_eq _ _).2 ?_)
          show v.toInt = -1
          omega
        · exact Or.inr ⟨v.toInt.toNat, by omega, i_nI (by omega) (by omega)⟩)
      have rn : c12_cuts v (fun r2 s2 => -1 = r2 ∧ Inv s2) s := e_c12_cuts (ahR_t (n := 1) (lo := 1) (hi := 1) ht (n2 0 (by omega)) (by decide) (by decide) (by decide) (by omega) (yes1 (isIn_f (by
        rw [wide]
        exact hno) (no0 ⟨rfl, II⟩))))
      refine br_c (fun _ => rn) (fun q => br_f ?_ rn)
      rw [fa_lt, show (-1 : Int32).toInt = -1 from rfl] at q
      rw [fa_lt, show (3 : Int32).toInt = 3 from rfl]
      omega
  · exact br_f (by rw [n1.1]; exact nI_nlt (b := 999) (by omega) (by omega)) (noR (Or.inr h9))
