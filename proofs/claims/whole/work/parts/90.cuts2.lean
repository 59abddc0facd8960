-- rows of cuts
def cuL (r : Nat → Nat) : Nat → Nat → (Nat → Nat) → (Nat → Nat)
  | 0, _, w => w
  | m + 1, k, w => cuL r m (k + 1) (uN w (r k) (if w (r k) + r k < 999 then w (r k) + r k else 999))
def cutW (w : Nat → Nat) (m : Nat) (r : Nat → Nat) : Nat → Nat := cuL r m 0 (uN w 1 (w 1 - m))
def nxK (fin : Nat) : Nat → (Nat → Nat) → Option (Nat → Nat)
  | 0, _ => none
  | k + 1, r => if r k < fin then some (fun j => if j < k then r j else r k + 1) else nxK fin k r
def srch (ok : (Nat → Nat) → Bool) (fin m : Nat) : Nat → (Nat → Nat) → Option (Nat → Nat)
  | 0, _ => none
  | f + 1, r => if ok r = true then some r else match nxK fin m r with
    | none => none
    | some r' => srch ok fin m f r'
def rwV (fin m : Nat) (r : Nat → Nat) : Prop := (∀ k, k < m → 2 ≤ r k ∧ r k ≤ fin) ∧ ∀ j k, j ≤ k → k < m → r j ≤ r k
def tr2 : Nat → Nat
  | 0 => 0
  | x + 1 => tr2 x + (x + 1)
def tr3 : Nat → Nat
  | 0 => 0
  | x + 1 => tr3 x + tr2 (x + 1)
def rk (fin m : Nat) (r : Nat → Nat) : Nat := if m = 0 then 0 else if m = 1 then fin - r 0 else if m = 2 then tr2 (fin - r 0) + (fin - r 1) else tr3 (fin - r 0) + (tr2 (fin - r 1) + (fin - r 2))
theorem tr2_p {x : Nat} (h : 1 ≤ x) : tr2 x = tr2 (x - 1) + x := by
  obtain ⟨y, rfl⟩ : ∃ y, x = y + 1 := ⟨x - 1, by omega⟩
  rfl
theorem tr3_p {x : Nat} (h : 1 ≤ x) : tr3 x = tr3 (x - 1) + tr2 x := by
  obtain ⟨y, rfl⟩ : ∃ y, x = y + 1 := ⟨x - 1, by omega⟩
  rfl
theorem nxK_V {fin m : Nat} {r r' : Nat → Nat} (V : rwV fin m r) : ∀ {k}, k ≤ m → nxK fin k r = some r' → rwV fin m r'
  | 0, _, e => by cases e
  | k + 1, hk, e => by
    unfold nxK at e
    by_cases q : r k < fin
    · rw [if_pos q] at e
      cases e
      obtain ⟨v1, v2⟩ := V
      have hk1 := v1 k (by omega)
      refine ⟨fun j hj => ?_, fun i j h1 h2 => ?_⟩
      · have := v1 j hj
        dsimp only
        split <;> omega
      · have a1 := v2 i j h1 h2
        dsimp only
        by_cases y : j < k
        · rw [if_pos (by omega), if_pos y]; exact a1
        · rw [if_neg y]
          split
          · have := v2 i k (by omega) (by omega)
            omega
          · exact Nat.le_refl _
    · rw [if_neg q] at e
      exact nxK_V V (by omega) e
theorem nxK_rk {fin m : Nat} {r r' : Nat → Nat} (hm : m ≤ 3) (V : rwV fin m r) (e : nxK fin m r = some r') : rk fin m r' + 1 = rk fin m r := by
  obtain ⟨v1, v2⟩ := V
  have cs : m = 0 ∨ m = 1 ∨ m = 2 ∨ m = 3 := by omega
  rcases cs with rfl | rfl | rfl | rfl
  · cases e
  · have a0 := v1 0 (by decide)
    unfold nxK at e
    by_cases q : r 0 < fin
    · rw [if_pos q] at e
      cases e
      show fin - (r 0 + 1) + 1 = fin - r 0
      omega
    · rw [if_neg q] at e; cases e
  · have a0 := v1 0 (by decide)
    have a1 := v1 1 (by decide)
    unfold nxK at e
    by_cases q : r 1 < fin
    · rw [if_pos q] at e
      cases e
      show tr2 (fin - r 0) + (fin - (r 1 + 1)) + 1 = tr2 (fin - r 0) + (fin - r 1)
      omega
    · rw [if_neg q] at e
      unfold nxK at e
      by_cases q2 : r 0 < fin
      · rw [if_pos q2] at e
        cases e
        show tr2 (fin - (r 0 + 1)) + (fin - (r 0 + 1)) + 1 = tr2 (fin - r 0) + (fin - r 1)
        rw [tr2_p (x := fin - r 0) (by omega), show fin - (r 0 + 1) = fin - r 0 - 1 by omega]
        omega
      · rw [if_neg q2] at e; cases e
  · have a0 := v1 0 (by decide)
    have a1 := v1 1 (by decide)
    have a2 := v1 2 (by decide)
    unfold nxK at e
    by_cases q : r 2 < fin
    · rw [if_pos q] at e
      cases e
      show tr3 (fin - r 0) + (tr2 (fin - r 1) + (fin - (r 2 + 1))) + 1 = tr3 (fin - r 0) + (tr2 (fin - r 1) + (fin - r 2))
      omega
    · rw [if_neg q] at e
      unfold nxK at e
      by_cases q2 : r 1 < fin
      · rw [if_pos q2] at e
        cases e
        show tr3 (fin - r 0) + (tr2 (fin - (r 1 + 1)) + (fin - (r 1 + 1))) + 1 = tr3 (fin - r 0) + (tr2 (fin - r 1) + (fin - r 2))
        rw [tr2_p (x := fin - r 1) (by omega), show fin - (r 1 + 1) = fin - r 1 - 1 by omega]
        omega
      · rw [if_neg q2] at e
        unfold nxK at e
        by_cases q3 : r 0 < fin
        · rw [if_pos q3] at e
          cases e
          show tr3 (fin - (r 0 + 1)) + (tr2 (fin - (r 0 + 1)) + (fin - (r 0 + 1))) + 1 = tr3 (fin - r 0) + (tr2 (fin - r 1) + (fin - r 2))
          rw [tr3_p (x := fin - r 0) (by omega), tr2_p (x := fin - r 0) (by omega), show fin - (r 0 + 1) = fin - r 0 - 1 by omega, show fin - r 1 = 0 by omega, show tr2 0 = 0 from rfl]
          omega
        · rw [if_neg q3] at e; cases e
theorem tr_mono : ∀ x y, x ≤ y → tr2 x ≤ tr2 y ∧ tr3 x ≤ tr3 y
  | x, 0, h => by rw [show x = 0 by omega]; exact ⟨Nat.le_refl _, Nat.le_refl _⟩
  | x, y + 1, h => by
    by_cases q : x = y + 1
    · rw [q]; exact ⟨Nat.le_refl _, Nat.le_refl _⟩
    · obtain ⟨a, b⟩ := tr_mono x y (by omega)
      refine ⟨Nat.le_trans a ?_, Nat.le_trans b ?_⟩
      · show tr2 y ≤ tr2 y + (y + 1)
        omega
      · show tr3 y ≤ tr3 y + tr2 (y + 1)
        omega
theorem rk_lt {fin m : Nat} (h : fin ≤ 24) : rk fin m (fun _ => 2) < 3000 := by
  have a := tr_mono (fin - 2) 22 (by omega)
  have b : tr2 22 = 253 := by decide
  have c : tr3 22 = 2024 := by decide
  unfold rk
  dsimp only
  split
  · omega
  · split
    · omega
    · split <;> omega
def XU (a j : Nat) : Bool := Xd 148 a j || Nat.beq a 153
theorem xu_f {a j : Nat} (h : a < 148 ∨ 153 < a) (h1 : a ≠ 146) (h2 : a ≠ 31) : XU a j = false := by
  unfold XU
  rw [xd_f (by omega) h1 h2, Bool.false_or, Bool.eq_false_iff]
  intro z
  have := Nat.beq_eq.mp z
  omega
theorem xu_d {a j : Nat} (h : Xd 148 a j = true) : XU a j = true := by unfold XU; rw [h]; rfl
theorem xu_3 {a j : Nat} (h : (fun a _ => Nat.beq a 153 : Nat → Nat → Bool) a j = true) : XU a j = true := by
  have := Nat.beq_eq.mp h
  unfold XU
  rw [show Nat.beq a 153 = true from h, Bool.or_true]
def rwC (s : sT) (a m : Nat) (r : Nat → Nat) : Prop := ∀ k, k < m → rI s a k = nI (r k)
theorem w_fillC {x : Nat} {Q : sT → Prop} : ∀ m k s, k + m = 3 → (∀ s', Fr (fun a _ => Nat.beq a 153) s s' → (∀ j, j < 3 → rI s' 153 j = if j < k then rI s 153 j else nI x) → Q s') → c5_fillCutRow_2 (nI x) (nI k) Q s
  | 0, k, s, e, h => by
    have e : k = 3 := e
    subst e
    exact e_c5_fillCutRow_2 (br_f (by decide) (h s fr_rf (fun j hj => by rw [if_pos hj])))
  | m + 1, k, s, e, h => by
    refine e_c5_fillCutRow_2 (br_t (nI_lt (b := 3) (by omega) (by decide)) ⟨vp_in_nI (by omega) (by decide), fun u hu => ?_⟩)
    rw [nI_clamp (by omega)] at hu
    rw [nI_1]
    refine w_fillC m (k + 1) u (by omega) (fun s' F g => h s' (fr_tr (by rw [hu]; exact fr_wI fr_rf rfl) F) (fun j hj => ?_))
    rw [g j hj, hu, rI_wI]
    by_cases q : j < k
    · rw [if_pos (by omega), if_neg (by omega), if_pos q]
    · rw [if_neg q]
      by_cases q2 : j = k
      · rw [if_pos (by omega), if_pos ⟨rfl, q2⟩]
      · rw [if_neg (by omega)]
theorem w_nextC {fin m : Nat} {r : Nat → Nat} {Q : Int32 → sT → Prop} {s : sT} (hF : rI s 21 0 = nI fin) (hf : fin ≤ 24) (hm : m ≤ 3) (V : rwV fin m r) (R : rwC s 153 m r) : ∀ k, k ≤ m → (∀ s' r', Fr (fun a _ => Nat.beq a 153) s s' → rwC s' 153 m r' → nxK fin k r = some r' → Q 1 s') → (nxK fin k r = none → Q 0 s) → c5_nextCutRow_4 (nI k + (-1 : Int32)) Q s
  | 0, _, h1, h0 => e_c5_nextCutRow_4 (br_t (by decide) (h0 rfl))
  | k + 1, hk, h1, h0 => by
    have hv := V.1 k (by omega)
    rw [pk_m1]
    refine e_c5_nextCutRow_4 (br_f (nI_pos (by omega)) ⟨vp_in_nI (by omega) (by decide), ?_⟩)
    unfold nxK at h1 h0
    rw [nI_clamp (by omega), R k (by omega), hF, nI_ltI (by omega) (by omega), nI_1]
    refine br_c (fun q => ⟨vp_in_nI (by omega) (by decide), ?_⟩) (fun q => ?_)
    · rw [if_pos q] at h1
      refine e_c5_fillCutRow (w_fillC (3 - k) k s (by omega) (fun s' F g => h1 s' _ F (fun j hj => ?_) rfl))
      rw [g j (by omega)]
      by_cases y : j < k
      · rw [if_pos y, if_pos y]; exact R j (by omega)
      · rw [if_neg y, if_neg y]
    · rw [if_neg q] at h1 h0
      exact w_nextC hF hf hm V R k (by omega) h1 h0
theorem cuL_M {r : Nat → Nat} : ∀ {m k : Nat} {w : Nat → Nat}, wM w → (∀ j, j < k + m → 2 ≤ r j) → wM (cuL r m k w)
  | 0, _, _, h, _ => h
  | m + 1, k, w, h, g => by
    have := g k (by omega)
    exact cuL_M (m := m) (uN_M h (by omega) (by split <;> omega)) (fun j hj => g j (by omega))
theorem cuL_0 {r : Nat → Nat} : ∀ {m k : Nat} {w : Nat → Nat}, (∀ j, j < k + m → 2 ≤ r j) → cuL r m k w 0 = w 0
  | 0, _, _, _ => rfl
  | m + 1, k, w, g => by
    have := g k (by omega)
    unfold cuL
    rw [cuL_0 (m := m) (fun j hj => g j (by omega)), uN_ne (by omega)]
theorem w_addC {fin m : Nat} {r : Nat → Nat} {Q : Int32 → sT → Prop} {s0 : sT} (hf : fin ≤ 24) (V : rwV fin m r) (hm : m ≤ 3) (R : rwC s0 153 m r) : ∀ n k w s, k + n = m → Fr (fun a _ => Nat.beq a 149) s0 s → StW s 148 w → wM w → (∀ s', Fr (fun a _ => Nat.beq a 149) s0 s' → StW s' 148 (cuL r n k w) → c0_servesAll (fun y2 u3 => (y2 = 0 ∨ y2 = 1) ∧ (Q y2 u3)) s') → c5_cutsServe_26 (nI m) (nI k) Q s
  | 0, k, w, s, e, F, W, hM, h => by
    have e : k = m := e
    subst e
    exact e_c5_cutsServe_26 (br_f (nI_nlt (Nat.le_refl _) (by omega)) (h s F W))
  | n + 1, k, w, s, e, F, W, hM, h => by
    have hv := V.1 k (by omega)
    have hw := hM.2 (r k) (by omega)
    refine e_c5_cutsServe_26 (br_t (nI_lt (by omega) (by omega)) ⟨vp_in_nI (by omega) (by decide), vp_in_nI (by omega) (by decide), ?_⟩)
    rw [nI_clamp (by omega), F.1 153 _ rfl, R k (by omega)]
    refine e_c9_addPieces ⟨vp_in_nI (by omega) (by decide), vp_in_nI (by omega) (by decide), fun u hu => ?_⟩
    rw [nI_clamp (by omega), W.2.2.1 _ (by omega) (by omega), nI_add, min_nI (c := (999 : Int32)) (b := 999) rfl (by omega) (by decide)] at hu
    rw [nI_1]
    exact w_addC hf V hm R n (k + 1) _ u (by omega) (fr_tr F (fr_149 hu)) (StW_148 W (by omega) (by omega) hu) (uN_M hM (by omega) (by split <;> omega)) h
def okC (L : Nat → List Nat) (lc : List Nat) (ppl bk : Nat) (w : Nat → Nat) (m : Nat) (r : Nat → Nat) : Bool := (dayF L lc ppl bk (cutW w m r) (0, fun _ _ => 0)).2.2 == 2 ^ ppl - 1
theorem okC_iff {L : Nat → List Nat} {lc : List Nat} {ppl bk m : Nat} {w r : Nat → Nat} : okC L lc ppl bk w m r = true ↔ svA L lc ppl bk (cutW w m r) := by
  unfold okC svA
  rw [beq_iff_eq]
theorem w_cutsServe {fin ppl bk m : Nat} {L : Nat → List Nat} {lc : List Nat} {w r : Nat → Nat} {Q : Int32 → sT → Prop} {s : sT} (C : OCc s fin ppl bk L lc) (W : StW s 38 w) (hV : wV fin ppl w) (h0 : w 0 ≤ 998) (hm : m ≤ 3) (hm1 : m ≤ w 1) (V : rwV fin m r) (R : rwC s 153 m r) (K : K148 s) (g1 : ∀ s', Fr (Xd 148) s s' → K148 s' → okC L lc ppl bk w m r = true → Q 1 s') (g0 : ∀ s', Fr (Xd 148) s s' → K148 s' → ¬ okC L lc ppl bk w m r = true → Q 0 s') : c5_cutsServe (nI m) Q s := by
  have h24 := C.1
  have hw1 := hV.1 1
  refine e_c5_cutsServe (w_takeCourse (by omega) W (fun u Fu Wu u2 hu2 => ?_))
  have Fu' : Fr (Xd 148) s u := fr_mo Fu (fun a j q => xd_s (xs_t (by
    unfold Xk at q
    simp only [Bool.or_eq_true, Bool.and_eq_true, Nat.beq_eq] at q
    omega)))
  rw [Wu.2.2.1 1 (by decide) (by decide), pk_sub hm1] at hu2
  have F2 := fr_149 hu2
  have W2 := StW_148 Wu (by decide) (by decide) hu2
  have K2 := K148_149 F2 (K148_k Fu K)
  have F2' : Fr (Xd 148) s u2 := fr_tr Fu' (fr_mo F2 (fun a j q => xd_149 q))
  have hMw : wM (uN w 1 (w 1 - m)) := uN_M (wV_M hV) (by decide) (by omega)
  refine w_addC h24 V hm (fun k hk => by rw [F2'.1 _ _ rfl]; exact R k hk) m 0 _ u2 (Nat.zero_add _) fr_rf W2 hMw (fun s3 F3 W3 => ?_)
  have F3' : Fr (Xd 148) s s3 := fr_tr F2' (fr_mo F3 (fun a j q => xd_149 q))
  refine w_servesAll (OCc_d (Or.inr rfl) F3' C) W3 (K148_149 F3 K2) (cuL_M hMw (fun j hj => (V.1 j (by omega)).1)) (fun s4 F4 K4 q => ⟨Or.inr rfl, g1 s4 (fr_tr F3' F4) K4 (okC_iff.2 q)⟩) (fun s4 F4 K4 q => ⟨Or.inl rfl, g0 s4 (fr_tr F3' F4) K4 (fun y => q (okC_iff.1 y))⟩)
theorem w_srchC {fin ppl bk m : Nat} {L : Nat → List Nat} {lc : List Nat} {w : Nat → Nat} {Q : Int32 → sT → Prop} {X : Int32 → Int32 → sT → Prop} {s0 : sT} (C : OCc s0 fin ppl bk L lc) (W : StW s0 38 w) (hV : wV fin ppl w) (h0 : w 0 ≤ 998) (hm : m ≤ 3) (hm1 : m ≤ w 1) (mst : Int32) : ∀ f i r s, rk fin m r < f → i + rk fin m r < 10000 → Fr XU s0 s → K148 s → rwV fin m r → rwC s 153 m r → (∀ s' r', Fr XU s0 s' → K148 s' → rwC s' 153 m r' → srch (okC L lc ppl bk w m) fin m f r = some r' → Q (nI m) s') → (∀ s', Fr XU s0 s' → K148 s' → srch (okC L lc ppl bk w m) fin m f r = none → X mst (nI (m + 1)) s') → c5_fewestCuts_32 mst (nI m) (1 : Int32) (nI i) Q X s := by
  intro f
  have h24 := C.1
  induction f with
  | zero => intro i r s e; omega
  | succ f ih =>
    intro i r s e e2 F K V R h1 h2
    unfold srch at h1 h2
    have Cs : OCc s fin ppl bk L lc := OCc_fr F (fun a j h1 h2 h3 => xu_f (by omega) (by omega) h3) C
    have Ws : StW s 38 w := StW_fr F (fun a j p q => xu_f (by omega) (by omega) (by omega)) W
    refine e_c5_fewestCuts_32 (br_t (nI_lt (b := 10000) (by omega) (by decide)) (br_f (by decide) (w_cutsServe Cs Ws hV h0 hm hm1 V R K (fun s1 F1 K1 q => yes1 ?_) (fun s1 F1 K1 q => no0 ?_))))
    · rw [if_pos q] at h1
      exact h1 s1 r (fr_tr F (fr_mo F1 fun a j q => xu_d q)) K1 (fun k hk => by rw [F1.1 _ _ rfl]; exact R k hk) rfl
    · rw [if_neg q] at h1 h2
      have F1' : Fr XU s0 s1 := fr_tr F (fr_mo F1 fun a j q => xu_d q)
      have R1 : rwC s1 153 m r := fun k hk => by rw [F1.1 _ _ rfl]; exact R k hk
      refine e_c5_nextCutRow (fun x hx => ?_)
      have ex : x = nI m + (-1 : Int32) := by rw [hx, Int32.sub_eq_add_neg]
      rw [ex]
      refine w_nextC (by rw [F1'.1 _ _ rfl]; exact C.2.2.2.1) h24 hm V R1 m (Nat.le_refl _) (fun s2 r2 F2 R2 e3 => ?_) (fun e3 => ?_)
      · rw [e3] at h1 h2
        have e4 := nxK_rk hm V e3
        rw [nI_1]
        exact ih (i + 1) r2 s2 (by omega) (by omega) (fr_tr F1' (fr_mo F2 fun a j q => xu_3 q)) (k148_fr F2 (fun a j z => by rcases z with rfl | rfl <;> rfl) K1) (nxK_V V (Nat.le_refl _) e3) R2 h1 h2
      · rw [e3] at h2
        have fin' : X mst (nI m + (1 : Int32)) s1 := by
          rw [nI_1]
          exact h2 s1 F1' K1 rfl
        exact e_c5_fewestCuts_32 (br_c (fun _ => br_t rfl fin') (fun _ => fin'))
