-- behind a part, in the reference
theorem lst_nil {v : Nat} : ¬ lst [] v := by
  rintro ⟨W', e⟩
  have := congrArg List.length e
  rw [List.length_append] at this
  exact absurd this (by simp)
theorem lst_ex {W : List Nat} (h : 0 < W.length) : ∃ x, lst W x := by
  have hne : W ≠ [] := fun y => by rw [y] at h; exact absurd h (by decide)
  exact ⟨W.getLast hne, W.dropLast, (List.dropLast_concat_getLast hne).symm⟩
theorem rev_c {W r : List Nat} {x : Nat} : W ++ (x :: r).reverse = (W ++ r.reverse) ++ [x] := by
  rw [List.reverse_cons, List.append_assoc]
theorem app_c {C r : List Nat} {x : Nat} : C ++ [x] ++ r = C ++ (x :: r) := by
  rw [List.append_assoc]
  rfl
/-- what waits last, in its cell -/
theorem r_top {v : Nat} {s0 s : sT} {b : Nat → Nat} {n tk o B d : Nat} {P : pT} {C W : List Nat} (R : RC s0 s b n tk P C (W ++ [v]) o B d) : rI s 162 103 = nI (W.length + 1) ∧ rI s 238 W.length = nI v ∧ v < 100 := by
  obtain ⟨r7, r8⟩ := R.2.2.2.2.2.1
  rw [List.length_append, List.length_singleton] at r7
  have := r8 W.length (by rw [List.length_append, List.length_singleton]; omega)
  rw [List.getElem_append_right (Nat.le_refl _)] at this
  simp at this
  exact ⟨r7, this.1, this.2⟩
theorem r_162 {v : Nat} {s0 : sT} {b : Nat → Nat} {n tk o B d : Nat} {P : pT} {W : List Nat} {Q : Int32 → sT → Prop} (hv : v < 100) (hB : B ≤ W.length) (t3 : ¬ lst W 3) (t4 : ¬ lst W 4) : ∀ (ρ C : List Nat) (s : sT), RC s0 s b n tk P C (W ++ ρ.reverse) o B (d + 1) → (∀ x, x ∈ ρ → x = 3 ∨ x = 4) → (∀ s', RC s0 s' b n tk P (C ++ ρ) (W ++ [v]) o B d → Q 1 s') → c12_qGoesOn_162 (nI v) Q s
  | [], C, s, R, g, h => by
    rw [List.reverse_nil, List.append_nil] at R
    rw [List.append_nil] at h
    have hle := RC_le R
    refine e_c12_qGoesOn_162 (r_isOn (v := 3) (by decide) R (fun q => absurd q t3) (fun _ => no0 (r_isOn (v := 4) (by decide) R (fun q => absurd q t4) (fun _ => no0 ⟨by rw [R.2.2.2.2.2.1.1]; exact vp_in_nI (by omega) (by decide), fun u hu w hw => h w (r_wait hv R hu hw)⟩))))
  | x :: r, C, s, R, g, h => by
    rw [rev_c] at R
    have hx := g x List.mem_cons_self
    have go : c12_qDrops (fun u => c12_qGoesOn_162 (nI v) Q u) s := r_drop R (by rw [List.length_append]; omega) (fun s1 R1 => r_162 hv hB t3 t4 r (C ++ [x]) s1 R1 (fun y hy => g y (List.mem_cons_of_mem _ hy)) (by rw [app_c]; exact h))
    refine e_c12_qGoesOn_162 (r_isOn (v := 3) (by decide) R (fun _ => yes1 go) (fun q3 => no0 (r_isOn (v := 4) (by decide) R (fun _ => yes1 go) (fun q4 => ?_))))
    rw [lst_ap] at q3 q4
    omega
theorem r_247 {v : Nat} {s0 : sT} {b : Nat → Nat} {n tk o B d : Nat} {P : pT} {W : List Nat} {Q : Int32 → sT → Prop} (hv : v < 100) (hB : B ≤ W.length) (t : ∀ x, lst W x → ¬ (1 ≤ x ∧ x ≤ 4)) : ∀ (ρ C : List Nat) (s : sT), RC s0 s b n tk P C (W ++ ρ.reverse) o B (d + 1) → (∀ x, x ∈ ρ → 1 ≤ x ∧ x ≤ 4) → (∀ s', RC s0 s' b n tk P (C ++ ρ) (W ++ [v]) o B d → Q 1 s') → c12_qGoesOn_247 (nI v) Q s
  | [], C, s, R, g, h => by
    rw [List.reverse_nil, List.append_nil] at R
    rw [List.append_nil] at h
    have hle := RC_le R
    refine e_c12_qGoesOn_247 (r_isOn (v := 3) (by decide) R (fun q => absurd ⟨by decide, by decide⟩ (t 3 q)) (fun _ => no0 (r_isOn (v := 4) (by decide) R (fun q => absurd ⟨by decide, by decide⟩ (t 4 q)) (fun _ => no0 (r_isOn (v := 1) (by decide) R (fun q => absurd ⟨by decide, by decide⟩ (t 1 q)) (fun _ => no0 (r_isOn (v := 2) (by decide) R (fun q => absurd ⟨by decide, by decide⟩ (t 2 q)) (fun _ => no0 ⟨by rw [R.2.2.2.2.2.1.1]; exact vp_in_nI (by omega) (by decide), fun u hu w hw => h w (r_wait hv R hu hw)⟩))))))))
  | x :: r, C, s, R, g, h => by
    rw [rev_c] at R
    have hx := g x List.mem_cons_self
    have go : c12_qDrops (fun u => c12_qGoesOn_247 (nI v) Q u) s := r_drop R (by rw [List.length_append]; omega) (fun s1 R1 => r_247 hv hB t r (C ++ [x]) s1 R1 (fun y hy => g y (List.mem_cons_of_mem _ hy)) (by rw [app_c]; exact h))
    refine e_c12_qGoesOn_247 (r_isOn (v := 3) (by decide) R (fun _ => yes1 go) (fun q3 => no0 (r_isOn (v := 4) (by decide) R (fun _ => yes1 go) (fun q4 => no0 (r_isOn (v := 1) (by decide) R (fun _ => yes1 go) (fun q1 => no0 (r_isOn (v := 2) (by decide) R (fun _ => yes1 go) (fun q2 => ?_))))))))
    rw [lst_ap] at q3 q4 q1 q2
    omega
theorem r_isBr {v : Nat} {Q : Int32 → sT → Prop} {s : sT} (hv : v < 100) (h1 : 20 ≤ v → v ≤ 24 → Q 1 s) (h0 : ¬ (20 ≤ v ∧ v ≤ 24) → Q 0 s) : c12_qIsBracket (nI v) Q s := by
  refine e_c12_qIsBracket ?_
  rw [show (20 : Int32) = nI 20 from rfl, show (24 : Int32) = nI 24 from rfl, nI_ltI (by omega) (by decide), nI_ltI (by decide) (by omega)]
  exact br_c (fun q => h0 (by omega)) (fun q => br_c (fun y => h0 (by omega)) (fun y => h1 (by omega) (by omega)))
theorem r_toBr {k : Nat} {s0 : sT} {b : Nat → Nat} {n tk o B d : Nat} {P : pT} {W : List Nat} {Q : sT → Prop} (hk : 20 ≤ k ∧ k ≤ 24) (hB : B ≤ W.length) : ∀ (ρ C : List Nat) (s : sT), RC s0 s b n tk P C (W ++ [k] ++ ρ.reverse) o B d → (∀ x, x ∈ ρ → 1 ≤ x ∧ x ≤ 4) → (∀ s', RC s0 s' b n tk P (C ++ ρ) (W ++ [k]) o B d → Q s') → c12_qDropsToBracket Q s
  | [], C, s, R, g, h => by
    rw [List.reverse_nil, List.append_nil] at R
    rw [List.append_nil] at h
    have hle := RC_le R
    rw [List.length_append, List.length_singleton] at hle
    obtain ⟨e1, e2, e3⟩ := r_top R
    refine e_c12_qDropsToBracket (br_t (by rw [R.2.2.2.2.2.2.2.1, e1]; exact nI_lt (by omega) (by omega)) ?_)
    rw [e1, show (nI (W.length + 1) - (1 : Int32)) = nI W.length from nI_pred _, nI_clamp (by omega), e2]
    exact ⟨vp_in_nI (by omega) (by decide), r_isBr e3 (fun _ _ => yes1 (h s R)) (fun q => absurd hk q)⟩
  | x :: r, C, s, R, g, h => by
    rw [rev_c] at R
    have hx := g x List.mem_cons_self
    have hle := RC_le R
    rw [List.length_append, List.length_singleton] at hle
    obtain ⟨e1, e2, e3⟩ := r_top R
    have hlen : B < (W ++ [k] ++ r.reverse).length + 1 := by
      rw [List.length_append, List.length_append]
      omega
    refine e_c12_qDropsToBracket (br_t (by rw [R.2.2.2.2.2.2.2.1, e1]; exact nI_lt hlen (by omega)) ?_)
    rw [e1, show (nI ((W ++ [k] ++ r.reverse).length + 1) - (1 : Int32)) = nI (W ++ [k] ++ r.reverse).length from nI_pred _, nI_clamp (by omega), e2]
    refine ⟨vp_in_nI (by omega) (by decide), r_isBr e3 (fun q _ => by omega) (fun _ => no0 (r_drop R (by omega) (fun s1 R1 => r_toBr hk hB r (C ++ [x]) s1 R1 (fun y hy => g y (List.mem_cons_of_mem _ hy)) (by rw [app_c]; exact h))))⟩
theorem r_ends0 {s0 s : sT} {b : Nat → Nat} {n tk o B d : Nat} {P : pT} {C W : List Nat} {K : sT → Prop} (R : RC s0 s b n tk P C W o B d) (h6 : ∀ x, lst W x → x < 60) (k : K s) : c12_qEndsPart K s := by
  have hle := RC_le R
  have hBW := R.2.2.2.2.2.2.2.2.2.2.2.1
  refine e_c12_qEndsPart (br_t R.2.2.1.1 (br_c (fun q => ?_) (fun _ => k)))
  rw [R.2.2.2.2.2.2.2.1, R.2.2.2.2.2.1.1, nI_ltI (by omega) (by omega)] at q
  obtain ⟨x, W', rfl⟩ := lst_ex (W := W) (by omega)
  rw [List.length_append, List.length_singleton] at hle
  obtain ⟨e1, e2, e3⟩ := r_top R
  have hx := h6 x ⟨W', rfl⟩
  rw [e1, show (nI (W'.length + 1) - (1 : Int32)) = nI W'.length from nI_pred _, nI_clamp (by omega), e2]
  exact ⟨vp_in_nI (by omega) (by decide), br_t (nI_lt (b := 60) hx (by decide)) k⟩
theorem EE_to {v1 : Int32} {Q : sT → Prop} {s0 s : sT} {b : Nat → Nat} {n tk o B d : Nat} {P : pT} {C W : List Nat} (R : RC s0 s b n tk P C W o B d) (h6 : ∀ x, lst W x → x < 60) (h : c12_qGoesOn (FFq v1 Q) s) : EEq v1 Q s := fun K g => r_ends0 R h6 (g s R.2.2.1.1 h)
theorem EE_60 {k : Nat} {v1 : Int32} {Q : sT → Prop} {s0 s : sT} {b : Nat → Nat} {n tk o B d : Nat} {P : pT} {C W : List Nat} (hk : k < 2) (hB : B ≤ W.length) (R : RC s0 s b n tk P C (W ++ [60 + k]) (o + 1) B d) (h : ∀ s', RC s0 s' b n tk P (C ++ [60 + k]) W o B d → EEq v1 Q s') : EEq v1 Q s := fun K g => by
  have hle := RC_le R
  have ho := R.2.2.2.2.2.2.2.2.2.2.1
  rw [List.length_append, List.length_singleton] at hle
  obtain ⟨e1, e2, e3⟩ := r_top R
  refine e_c12_qEndsPart (br_t R.2.2.1.1 (br_t (by rw [R.2.2.2.2.2.2.2.1, e1]; exact nI_lt (by omega) (by omega)) ?_))
  rw [e1, show (nI (W.length + 1) - (1 : Int32)) = nI W.length from nI_pred _, nI_clamp (by omega), e2]
  refine ⟨vp_in_nI (by omega) (by decide), br_f (nI_nlt (b := 60) (by omega) (by omega)) (fun u hu => ?_)⟩
  rw [R.2.2.2.2.2.2.1, show (nI (o + 1) - (1 : Int32)) = nI o from nI_pred _] at hu
  exact r_drop (r_opened R (by omega) hu) hB (fun s1 R1 => h s1 R1 K g)
/-- what is open last -/
theorem r_brk {k : Nat} {s0 s : sT} {b : Nat → Nat} {n tk o B d : Nat} {P : pT} {C W ρ : List Nat} {Q : Int32 → sT → Prop} (R : RC s0 s b n tk P C (W ++ [k] ++ ρ.reverse) o B d) (hk : 20 ≤ k ∧ k ≤ 24) (hB : B ≤ W.length) (g : ∀ x, x ∈ ρ → 1 ≤ x ∧ x ≤ 4) (h : Q (nI k) s) : c12_qBracket Q s := by
  have hle := RC_le R
  obtain ⟨r7, r8⟩ := R.2.2.2.2.2.1
  have hl : (W ++ [k] ++ ρ.reverse).length = W.length + 1 + ρ.length := by rw [List.length_append, List.length_append, List.length_reverse]; rfl
  rw [hl] at r7 hle
  have at_k : rI s 238 W.length = nI k := by
    have := (r8 W.length (by omega)).1
    rw [List.getElem_append_left (by rw [List.length_append]; simp), List.getElem_append_right (Nat.le_refl _)] at this
    simp at this
    exact this
  have at_j : ∀ j, W.length < j → j < W.length + 1 + ρ.length → ∃ x, rI s 238 j = nI x ∧ 1 ≤ x ∧ x ≤ 4 := fun j h1 h2 => by
    have := (r8 j (by omega)).1
    rw [List.getElem_append_right (by rw [List.length_append, List.length_singleton]; omega)] at this
    refine ⟨_, this, g _ ?_⟩
    exact List.mem_reverse.1 (List.getElem_mem _)
  have main : ∀ m, m ≤ ρ.length → c12_qBracket_7 (nI (W.length + m)) Q s := by
    intro m
    induction m with
    | zero =>
      intro _
      rw [Nat.add_zero]
      refine e_c12_qBracket_7 (br_f (by rw [R.2.2.2.2.2.2.2.1]; exact nI_nlt hB (by omega)) ⟨vp_in_nI (by omega) (by decide), ?_⟩)
      rw [nI_clamp (by omega), at_k]
      refine r_isBr (by omega) (fun _ _ => yes1 (br_f (by rw [R.2.2.2.2.2.2.2.1]; exact nI_nlt hB (by omega)) ⟨vp_in_nI (by omega) (by decide), ?_⟩)) (fun q => absurd hk q)
      rw [at_k]
      exact h
    | succ m ih =>
      intro hm
      obtain ⟨x, e, x1, x2⟩ := at_j (W.length + (m + 1)) (by omega) (by omega)
      refine e_c12_qBracket_7 (br_f (by rw [R.2.2.2.2.2.2.2.1]; exact nI_nlt (by omega) (by omega)) ⟨vp_in_nI (by omega) (by decide), ?_⟩)
      rw [nI_clamp (by omega), e]
      refine r_isBr (by omega) (fun q _ => by omega) (fun _ => no0 ?_)
      rw [show nI (W.length + (m + 1)) + (-1 : Int32) = nI (W.length + m) from pk_m1 _]
      exact ih (by omega)
  refine e_c12_qBracket (fun x hx => ?_)
  rw [r7, show W.length + 1 + ρ.length = W.length + ρ.length + 1 by omega, nI_pred] at hx
  rw [hx]
  exact main ρ.length (Nat.le_refl _)
theorem r_brk0 {s0 s : sT} {b : Nat → Nat} {n tk o d : Nat} {P : pT} {C W ρ : List Nat} {Q : Int32 → sT → Prop} (R : RC s0 s b n tk P C (W ++ ρ.reverse) o W.length d) (g : ∀ x, x ∈ ρ → 1 ≤ x ∧ x ≤ 4) (h : Q (-1) s) : c12_qBracket Q s := by
  have hle := RC_le R
  obtain ⟨r7, r8⟩ := R.2.2.2.2.2.1
  have hl : (W ++ ρ.reverse).length = W.length + ρ.length := by rw [List.length_append, List.length_reverse]
  rw [hl] at r7 hle
  have at_j : ∀ j, W.length ≤ j → j < W.length + ρ.length → ∃ x, rI s 238 j = nI x ∧ 1 ≤ x ∧ x ≤ 4 := fun j h1 h2 => by
    have := (r8 j (by omega)).1
    rw [List.getElem_append_right (by omega)] at this
    exact ⟨_, this, g _ (List.mem_reverse.1 (List.getElem_mem _))⟩
  have main : ∀ m, m ≤ ρ.length → c12_qBracket_7 (cV (W.length + m)) Q s := by
    intro m
    induction m with
    | zero =>
      intro _
      have hlt : cV (W.length + 0) < rI s 162 105 := by
        rw [R.2.2.2.2.2.2.2.1, fa_lt, cV_i (by omega), nI_toInt (by omega)]
        omega
      exact e_c12_qBracket_7 (br_t hlt (br_t hlt h))
    | succ m ih =>
      intro hm
      obtain ⟨x, e, x1, x2⟩ := at_j (W.length + m) (by omega) (by omega)
      rw [show W.length + (m + 1) = (W.length + m) + 1 by omega, cV_s]
      refine e_c12_qBracket_7 (br_f (by rw [R.2.2.2.2.2.2.2.1]; exact nI_nlt (by omega) (by omega)) ⟨vp_in_nI (by omega) (by decide), ?_⟩)
      rw [nI_clamp (by omega), e]
      exact r_isBr (by omega) (fun q _ => by omega) (fun _ => no0 (ih (by omega)))
  refine e_c12_qBracket (fun x hx => ?_)
  have ex : x = cV (W.length + ρ.length) := by rw [hx, r7, Int32.sub_eq_add_neg]; rfl
  rw [ex]
  exact main ρ.length (Nat.le_refl _)
theorem SW_go {v1 : Int32} {Q : sT → Prop} {s : sT} (h5 : rI s 162 5 = 0) (h : SWq v1 Q s) : c12_qSums_15 v1 (1 : Int32) Q s := e_c12_qSums_15 (br_f (by decide) (br_t h5 (e_c12_qPartTold h)))
theorem lk_ne {b : Nat → Nat} {n c : Nat} {P : pT} {s : sT} (T : TR s b n) (hc : c < 256) (h3 : kd c = 3) (h : tok b n P ≠ tSg c) : ¬ lkv b n P = nI c := fun y => h ((lkv_sign T hc h3).1 y)
theorem sg_ne {b : Nat → Nat} {n c c' : Nat} {P : pT} (h : tok b n P = tSg c) (hc : c ≠ c') : tok b n P ≠ tSg c' := fun y => by
  rw [h] at y
  exact hc (List.head_eq_of_cons_eq (Prod.mk.inj y).2)
theorem g_mul {c v : Nat} {v1 : Int32} {Q : sT → Prop} {s0 s : sT} {b : Nat → Nat} {n tk o B d : Nat} {P : pT} {C W ρ : List Nat} (hcv : c = 42 ∧ v = 3 ∨ c = 47 ∧ v = 4) (R : RC s0 s b n tk P C (W ++ ρ.reverse) o B d) (hT : tok b n P = tSg c) (hB : B ≤ W.length) (t3 : ¬ lst W 3) (t4 : ¬ lst W 4) (g : ∀ x, x ∈ ρ → x = 3 ∨ x = 4) (h : ∀ s', RC s0 s' b n tk (adv b n P) (C ++ ρ) (W ++ [v]) o B d → SWq v1 Q s') : c12_qGoesOn (FFq v1 Q) s := by
  obtain ⟨q1, q2, q3⟩ := tok_sign.1 hT
  have hn := R.2.1.1.1
  have fin' : ∀ s1, RC s0 s1 b n tk (adv b n P) C (W ++ ρ.reverse) o B (d + 1) → rI s1 162 2 = nI (P.1 + 1) → vp_in ((rI s1 162 2) - (1 : Int32)) 1600 ∧ (((rI s1 163 ((rI s1 162 2) - (1 : Int32)).toNatClampNeg) = (42 : Int32) → c12_qGoesOn_162 (3 : Int32) (FFq v1 Q) s1) ∧ (¬ (rI s1 163 ((rI s1 162 2) - (1 : Int32)).toNatClampNeg) = (42 : Int32) → c12_qGoesOn_162 (4 : Int32) (FFq v1 Q) s1)) := by
    intro s1 R1 e
    have go : c12_qGoesOn_162 (nI v) (FFq v1 Q) s1 := r_162 (by omega) hB t3 t4 ρ C s1 R1 g (fun s2 R2 => yes1 (SW_go R2.2.2.1.1 (h s2 R2)))
    have hb := R1.2.1.1.2.2 P.1 (by omega)
    rw [e, nI_pred, nI_clamp (by omega), hb.2, q3, show (42 : Int32) = nI 42 from rfl, nI_eq (by omega) (by decide)]
    refine ⟨vp_in_nI (by omega) (by decide), ?_⟩
    rcases hcv with ⟨y1, y2⟩ | ⟨y1, y2⟩
    · rw [y2] at go
      exact br_t y1 go
    · rw [y2] at go
      exact br_f (by omega) go
  refine e_c12_qGoesOn (br_t R.2.2.1.1 (r_lookC R (fun s1 R1 N1 => br_f (lk_ne (c := 41) R.2.1.1 (by decide) (by decide) (sg_ne hT (by omega))) (e_c12_qGoesOn_122 ?_))))
  rcases hcv with ⟨y1, y2⟩ | ⟨y1, y2⟩
  · rw [y1] at hT
    exact r_signC (c := 42) (by decide) (by decide) R1 (fun _ s2 R2 e2 => yes1 (fin' s2 R2 e2)) (fun q _ _ _ => absurd hT q)
  · rw [y1] at hT
    exact r_signC (c := 42) (by decide) (by decide) R1 (fun q _ _ _ => absurd q (sg_ne hT (by decide))) (fun _ s2 R2 _ => no0 (r_signC (c := 47) (by decide) (by decide) R2 (fun _ s3 R3 e3 => yes1 (fin' s3 R3 e3)) (fun q _ _ _ => absurd hT q)))
theorem g_add {c v : Nat} {v1 : Int32} {Q : sT → Prop} {s0 s : sT} {b : Nat → Nat} {n tk o B d : Nat} {P : pT} {C W ρ : List Nat} (hcv : c = 43 ∧ v = 1 ∨ c = 45 ∧ v = 2) (R : RC s0 s b n tk P C (W ++ ρ.reverse) o B d) (hT : tok b n P = tSg c) (hB : B ≤ W.length) (t : ∀ x, lst W x → ¬ (1 ≤ x ∧ x ≤ 4)) (g : ∀ x, x ∈ ρ → 1 ≤ x ∧ x ≤ 4) (h : ∀ s', RC s0 s' b n tk (adv b n P) (C ++ ρ) (W ++ [v]) o B d → SWq v1 Q s') : c12_qGoesOn (FFq v1 Q) s := by
  obtain ⟨q1, q2, q3⟩ := tok_sign.1 hT
  have hn := R.2.1.1.1
  have fin' : ∀ s1, RC s0 s1 b n tk (adv b n P) C (W ++ ρ.reverse) o B (d + 1) → rI s1 162 2 = nI (P.1 + 1) → vp_in ((rI s1 162 2) - (1 : Int32)) 1600 ∧ (((rI s1 163 ((rI s1 162 2) - (1 : Int32)).toNatClampNeg) = (43 : Int32) → c12_qGoesOn_247 (1 : Int32) (FFq v1 Q) s1) ∧ (¬ (rI s1 163 ((rI s1 162 2) - (1 : Int32)).toNatClampNeg) = (43 : Int32) → c12_qGoesOn_247 (2 : Int32) (FFq v1 Q) s1)) := by
    intro s1 R1 e
    have go : c12_qGoesOn_247 (nI v) (FFq v1 Q) s1 := r_247 (by omega) hB t ρ C s1 R1 g (fun s2 R2 => yes1 (SW_go R2.2.2.1.1 (h s2 R2)))
    have hb := R1.2.1.1.2.2 P.1 (by omega)
    rw [e, nI_pred, nI_clamp (by omega), hb.2, q3, show (43 : Int32) = nI 43 from rfl, nI_eq (by omega) (by decide)]
    refine ⟨vp_in_nI (by omega) (by decide), ?_⟩
    rcases hcv with ⟨y1, y2⟩ | ⟨y1, y2⟩
    · rw [y2] at go
      exact br_t y1 go
    · rw [y2] at go
      exact br_f (by omega) go
  refine e_c12_qGoesOn (br_t R.2.2.1.1 (r_lookC R (fun s1 R1 N1 => br_f (lk_ne (c := 41) R.2.1.1 (by decide) (by decide) (sg_ne hT (by omega))) (e_c12_qGoesOn_122 (r_signC (c := 42) (by decide) (by decide) R1 (fun q _ _ _ => absurd q (sg_ne hT (by omega))) (fun _ s2 R2 _ => no0 (r_signC (c := 47) (by decide) (by decide) R2 (fun q _ _ _ => absurd q (sg_ne hT (by omega))) (fun _ s3 R3 _ => no0 ?_))))))))
  rcases hcv with ⟨y1, y2⟩ | ⟨y1, y2⟩
  · rw [y1] at hT
    exact r_signC (c := 43) (by decide) (by decide) R3 (fun _ s2 R2 e2 => yes1 (fin' s2 R2 e2)) (fun q _ _ _ => absurd hT q)
  · rw [y1] at hT
    exact r_signC (c := 43) (by decide) (by decide) R3 (fun q _ _ _ => absurd q (sg_ne hT (by decide))) (fun _ s2 R2 _ => no0 (r_signC (c := 45) (by decide) (by decide) R2 (fun _ s3 R3 e3 => yes1 (fin' s3 R3 e3)) (fun q _ _ _ => absurd hT q)))
/-- no sign of a sum is here -/
def noOp (T : Tok) : Prop := T ≠ tSg 42 ∧ T ≠ tSg 47 ∧ T ≠ tSg 43 ∧ T ≠ tSg 45
theorem g_122 {bv : Int32} {v1 : Int32} {Q : sT → Prop} {s0 s : sT} {b : Nat → Nat} {n tk o B d : Nat} {P : pT} {C W : List Nat} (R : RC s0 s b n tk P C W o B d) (hno : noOp (tok b n P)) (hb : ∀ (Q' : Int32 → sT → Prop) s', RC s0 s' b n tk P C W o B d → Q' bv s' → c12_qBracket Q' s') (h21 : bv = (21 : Int32) ∨ bv = (22 : Int32) → ∀ s', RC s0 s' b n tk P C W o B d → c12_qGoesOn_326 (FFq v1 Q) s') (hm : bv = (-1 : Int32) → ∀ s', RC s0 s' b n tk P C W o B d → c12_qSums_15 v1 (0 : Int32) Q s') (hx : bv ≠ (21 : Int32) → bv ≠ (22 : Int32) → bv ≠ (-1 : Int32) → ∀ s', Fr XPR s0 s' → RY s' 1 P.1 → c12_qSums_15 v1 (0 : Int32) Q s') : c12_qGoesOn_122 (FFq v1 Q) s := by
  obtain ⟨n1, n2, n3, n4⟩ := hno
  refine e_c12_qGoesOn_122 (r_signC (c := 42) (by decide) (by decide) R (fun q _ _ _ => absurd q n1) (fun _ s1 R1 _ => no0 (r_signC (c := 47) (by decide) (by decide) R1 (fun q _ _ _ => absurd q n2) (fun _ s2 R2 _ => no0 (r_signC (c := 43) (by decide) (by decide) R2 (fun q _ _ _ => absurd q n3) (fun _ s3 R3 _ => no0 (r_signC (c := 45) (by decide) (by decide) R3 (fun q _ _ _ => absurd q n4) (fun _ s4 R4 N4 => no0 (hb _ s4 R4 (br_c (fun q => h21 (Or.inl q) s4 R4) (fun q => hb _ s4 R4 (br_c (fun q2 => h21 (Or.inr q2) s4 R4) (fun q2 => hb _ s4 R4 (br_c (fun q3 => no0 (hm q3 s4 R4)) (fun q3 => br_t R4.2.2.1.1 ?_)))))))))))))))
  rw [N4.2.1]
  exact r_fail (f := 1) R4.2.2.1.1 (by decide) (fun s5 F5 X5 => no0 (hx q q2 q3 s5 (fr_tr R4.1 (fr_mo F5 fun a j q => xpr_l q)) (RY_of R4 F5 X5)))
theorem g_close {k : Nat} {v1 : Int32} {Q : sT → Prop} {s0 s : sT} {b : Nat → Nat} {n tk o B d : Nat} {P : pT} {C W ρ : List Nat} (hk : k = 20 ∨ k = 23 ∨ k = 24) (R : RC s0 s b n tk P C (W ++ [k] ++ ρ.reverse) (o + 1) B d) (hT : tok b n P = tSg 41) (hB : B ≤ W.length) (g : ∀ x, x ∈ ρ → 1 ≤ x ∧ x ≤ 4) (h : ∀ s', RC s0 s' b n tk (adv b n P) (C ++ ρ ++ (if k = 20 then [] else if k = 23 then [5] else [6])) W o B d → EEq v1 Q s') : c12_qGoesOn (FFq v1 Q) s := by
  obtain ⟨q1, q2, q3⟩ := tok_sign.1 hT
  have hk2 : 20 ≤ k ∧ k ≤ 24 := by omega
  have ho := R.2.2.2.2.2.2.2.2.2.2.1
  have go : ∀ s1, RC s0 s1 b n tk P C (W ++ [k] ++ ρ.reverse) (o + 1) B d → RN s1 b n P → c12_qGoesOn_43 (FFq v1 Q) (fun s => c12_qGoesOn (FFq v1 Q) s) s1 := by
    intro s1 R1 N1
    refine e_c12_qGoesOn_43 (fun u hu => r_toBr hk2 hB ρ C u (r_passC R1 N1 q1 q2 hu) g (fun s2 R2 u3 h3 u4 h4 => ?_))
    obtain ⟨R3, e1, e2⟩ := r_unwait R2 hB h3
    have hle := RC_le R3
    rw [R3.2.2.2.2.2.2.1, show (nI (o + 1) - (1 : Int32)) = nI o from nI_pred _] at h4
    have R4 := r_opened R3 (by omega) h4
    have e4 : rI u4 162 103 = nI W.length := by rw [h4, rI_wI, if_neg (by omega)]; exact e1
    have e5 : rI u4 238 W.length = nI k := by rw [h4, rI_wI, if_neg (by omega)]; exact e2
    rw [e4, nI_clamp (by omega), e5]
    refine ⟨vp_in_nI (by omega) (by decide), ?_⟩
    rcases hk with rfl | rfl | rfl
    · rw [if_pos rfl, List.append_nil] at h
      exact br_t rfl (EE_G (h u4 (RC_d R4 (by omega))))
    · rw [if_neg (by decide), if_pos rfl] at h
      exact br_f (by decide) ⟨vp_in_nI (by omega) (by decide), br_t rfl (r_code (v := 5) (RC_d R4 (by omega)) (fun s5 R5 => EE_G (h s5 R5)))⟩
    · rw [if_neg (by decide), if_neg (by decide)] at h
      exact br_f (by decide) ⟨vp_in_nI (by omega) (by decide), br_f (by decide) (r_code (v := 6) (RC_d R4 (by omega)) (fun s5 R5 => EE_G (h s5 R5)))⟩
  have hb : ∀ (Q' : Int32 → sT → Prop) s', RC s0 s' b n tk P C (W ++ [k] ++ ρ.reverse) (o + 1) B d → Q' (nI k) s' → c12_qBracket Q' s' := fun Q' s' R' h' => r_brk R' hk2 hB g h'
  refine e_c12_qGoesOn (br_t R.2.2.1.1 (r_lookC R (fun s1 R1 N1 => br_t ((lkv_sign R.2.1.1 (c := 41) (by decide) (by decide)).2 hT) ?_)))
  rcases hk with rfl | rfl | rfl
  · exact hb _ s1 R1 (br_t rfl (go s1 R1 N1))
  · exact hb _ s1 R1 (br_f (by decide) (hb _ s1 R1 (br_t rfl (go s1 R1 N1))))
  · exact hb _ s1 R1 (br_f (by decide) (hb _ s1 R1 (br_f (by decide) (hb _ s1 R1 (br_t rfl (go s1 R1 N1))))))
/-- what is here when the first words of going on do nothing -/
theorem g_in {bv : Int32} {v1 : Int32} {Q : sT → Prop} {s0 s : sT} {b : Nat → Nat} {n tk o B d : Nat} {P : pT} {C W : List Nat} (R : RC s0 s b n tk P C W o B d) (hb : ∀ (Q' : Int32 → sT → Prop) s', RC s0 s' b n tk P C W o B d → Q' bv s' → c12_qBracket Q' s') (hno : tok b n P ≠ tSg 41 ∨ (bv ≠ (20 : Int32) ∧ bv ≠ (23 : Int32) ∧ bv ≠ (24 : Int32))) (h : ∀ s', RC s0 s' b n tk P C W o B d → c12_qGoesOn_122 (FFq v1 Q) s') : c12_qGoesOn (FFq v1 Q) s := by
  refine e_c12_qGoesOn (br_t R.2.2.1.1 (r_lookC R (fun s1 R1 N1 => br_c (fun q => ?_) (fun _ => h s1 R1))))
  have hT := (lkv_sign R.2.1.1 (c := 41) (by decide) (by decide)).1 q
  rcases hno with y | ⟨y1, y2, y3⟩
  · exact absurd hT y
  · exact hb _ s1 R1 (br_f y1 (hb _ s1 R1 (br_f y2 (hb _ s1 R1 (br_f y3 (h s1 R1))))))
theorem g_comma {k : Nat} {v1 : Int32} {Q : sT → Prop} {s0 s : sT} {b : Nat → Nat} {n tk o B d : Nat} {P : pT} {C W ρ : List Nat} (hk : k < 2) (R : RC s0 s b n tk P C (W ++ [21 + k] ++ ρ.reverse) o B d) (hB : B ≤ W.length) (g : ∀ x, x ∈ ρ → 1 ≤ x ∧ x ≤ 4) (hno : noOp (tok b n P)) (h : tok b n P = tSg 44 → ∀ s', RC s0 s' b n tk (adv b n P) (C ++ ρ) (W ++ [23 + k]) o B d → SWq v1 Q s') (h0 : tok b n P ≠ tSg 44 → ∀ s', Fr XPR s0 s' → RY s' 1 P.1 → c12_qSums_15 v1 (0 : Int32) Q s') : c12_qGoesOn (FFq v1 Q) s := by
  have hk2 : 20 ≤ 21 + k ∧ 21 + k ≤ 24 := by omega
  have hb : ∀ (Q' : Int32 → sT → Prop) s', RC s0 s' b n tk P C (W ++ [21 + k] ++ ρ.reverse) o B d → Q' (nI (21 + k)) s' → c12_qBracket Q' s' := fun Q' s' R' h' => r_brk R' hk2 hB g h'
  have kk : k = 0 ∨ k = 1 := by omega
  refine g_in R hb (Or.inr (by rcases kk with rfl | rfl <;> exact ⟨by decide, by decide, by decide⟩)) (fun s1 R1 => g_122 R1 hno hb (fun _ s2 R2 => ?_) (fun q => by rcases kk with rfl | rfl <;> exact absurd q (by decide)) (fun q q2 => by rcases kk with rfl | rfl <;> first | exact absurd rfl q | exact absurd rfl q2))
  refine e_c12_qGoesOn_326 (r_asksSignC (c := 44) (by decide) (by decide) R2 (fun q s3 R3 => br_t R3.2.2.1.1 (r_toBr hk2 hB ρ C s3 R3 g (fun s4 R4 => ?_))) (fun q s3 F3 X3 => br_f (RX_n0 X3.1) (no0 (h0 q s3 F3 X3))))
  obtain ⟨e1, e2, e3⟩ := r_top R4
  have hle := RC_le R4
  rw [List.length_append, List.length_append, List.length_singleton] at hle
  rw [e1, show (nI (W.length + 1) - (1 : Int32)) = nI W.length from nI_pred _, nI_clamp (by omega), e2, show (2 : Int32) = nI 2 from rfl, nI_add]
  refine ⟨vp_in_nI (by omega) (by decide), vp_in_nI (by omega) (by decide), fun u hu => yes1 (SW_go ?_ (h q u ?_))⟩
  · rw [hu, rI_wI, if_neg (by omega)]; exact R4.2.2.1.1
  · obtain ⟨r1, r2, r3, r4, ⟨r5, r6⟩, ⟨r7, r8⟩, r9, r10, r11, r12, r13, r14, r15⟩ := RC_d R4 (d' := d) (by omega)
    have F : Fr (fun a j => Nat.beq a 238) s4 u := by rw [hu]; exact fr_wI fr_rf rfl
    have lw : (W ++ [21 + k]).length = W.length + 1 := by rw [List.length_append]; rfl
    rw [lw] at r7 r12 r14
    refine ⟨fr_tr r1 (fr_mo F fun a j q => ?_), ⟨TR_fr F rfl (fun _ => rfl) r2.1, by rw [F.1 _ _ rfl]; exact r2.2⟩, RL_z r3 F ⟨rfl, rfl, rfl⟩, IC_fr F (fun a j q => ?_) r4, ⟨by rw [F.1 _ _ rfl]; exact r5, fun k hk => by rw [F.1 _ _ rfl]; exact r6 k hk⟩, ⟨by rw [F.1 _ _ rfl, List.length_append, List.length_singleton]; exact r7, fun j hj => ?_⟩, by rw [F.1 _ _ rfl]; exact r9, by rw [F.1 _ _ rfl]; exact r10, by rw [F.1 _ _ rfl]; exact r11, by rw [show (W ++ [23 + k]).length = W.length + 1 by rw [List.length_append]; rfl]; omega, r13, by rw [show (W ++ [23 + k]).length = W.length + 1 by rw [List.length_append]; rfl]; omega, r15⟩
    · unfold XPR
      rw [show Nat.beq a 238 = true from q]
      simp
    · unfold fIC at q
      rw [Bool.eq_false_iff]
      intro y
      simp only [Bool.or_eq_true, Bool.and_eq_true, Nat.beq_eq, Nat.ble_eq] at *
      omega
    · rw [List.length_append, List.length_singleton] at hj
      rw [hu, rI_wI]
      by_cases y : j = W.length
      · subst y
        rw [if_pos ⟨rfl, rfl⟩, List.getElem_append_right (Nat.le_refl _)]
        simp
        exact ⟨by congr 1; omega, by omega⟩
      · have := r8 j (by rw [List.length_append, List.length_singleton]; omega)
        rw [List.getElem_append_left (by omega)] at this
        rw [if_neg (by omega), List.getElem_append_left (by omega)]
        exact this
theorem g_stop {k : Nat} {v1 : Int32} {Q : sT → Prop} {s0 s : sT} {b : Nat → Nat} {n tk o B d : Nat} {P : pT} {C W ρ : List Nat} (hk : k = 20 ∨ k = 23 ∨ k = 24) (R : RC s0 s b n tk P C (W ++ [k] ++ ρ.reverse) o B d) (hB : B ≤ W.length) (g : ∀ x, x ∈ ρ → 1 ≤ x ∧ x ≤ 4) (hno : noOp (tok b n P)) (h41 : tok b n P ≠ tSg 41) (h0 : ∀ s', Fr XPR s0 s' → RY s' 1 P.1 → c12_qSums_15 v1 (0 : Int32) Q s') : c12_qGoesOn (FFq v1 Q) s := by
  have hk2 : 20 ≤ k ∧ k ≤ 24 := by omega
  have hb : ∀ (Q' : Int32 → sT → Prop) s', RC s0 s' b n tk P C (W ++ [k] ++ ρ.reverse) o B d → Q' (nI k) s' → c12_qBracket Q' s' := fun Q' s' R' h' => r_brk R' hk2 hB g h'
  refine g_in R hb (Or.inl h41) (fun s1 R1 => g_122 R1 hno hb (fun q => ?_) (fun q => ?_) (fun _ _ _ => h0))
  · exfalso
    rcases hk with rfl | rfl | rfl <;> (rcases q with q | q <;> exact absurd q (by decide))
  · exfalso
    rcases hk with rfl | rfl | rfl <;> exact absurd q (by decide)
theorem r_53 {v : Nat} {s0 : sT} {b : Nat → Nat} {n tk o d : Nat} {P : pT} {W : List Nat} {Q : sT → Prop} (hv : v ≤ W.length) : ∀ (ρ C : List Nat) (s : sT), RC s0 s b n tk P C (W ++ ρ.reverse) o W.length d → (∀ s', RC s0 s' b n tk P (C ++ ρ) W o v d → Q s') → c12_qSums_53 (nI v) Q s
  | [], C, s, R, h => by
    rw [List.reverse_nil, List.append_nil] at R
    rw [List.append_nil] at h
    have hle := RC_le R
    exact e_c12_qSums_53 (br_t R.2.2.1.1 (br_f (by rw [R.2.2.2.2.2.2.2.1, R.2.2.2.2.2.1.1]; exact nI_nlt (Nat.le_refl _) (by omega)) (fun u hu => h u (r_base R hv hu))))
  | x :: r, C, s, R, h => by
    rw [rev_c] at R
    have hle := RC_le R
    rw [List.length_append, List.length_singleton] at hle
    refine e_c12_qSums_53 (br_t R.2.2.1.1 (br_t ?_ (r_drop R (by rw [List.length_append]; omega) (fun s1 R1 => r_53 hv r (C ++ [x]) s1 R1 (by rw [app_c]; exact h)))))
    rw [R.2.2.2.2.2.2.2.1, (r_top R).1]
    refine nI_lt ?_ (by omega)
    rw [List.length_append]
    omega
theorem g_end {v : Nat} {Q : sT → Prop} {s0 s : sT} {b : Nat → Nat} {n tk o d : Nat} {P : pT} {C W ρ : List Nat} (hv : v ≤ W.length) (R : RC s0 s b n tk P C (W ++ ρ.reverse) o W.length d) (g : ∀ x, x ∈ ρ → 1 ≤ x ∧ x ≤ 4) (hno : noOp (tok b n P)) (h : ∀ s', RC s0 s' b n tk P (C ++ ρ) W o v d → Q s') : c12_qGoesOn (FFq (nI v) Q) s := by
  have hb : ∀ (Q' : Int32 → sT → Prop) s', RC s0 s' b n tk P C (W ++ ρ.reverse) o W.length d → Q' (-1 : Int32) s' → c12_qBracket Q' s' := fun Q' s' R' h' => r_brk0 R' g h'
  exact g_in R hb (Or.inr ⟨by decide, by decide, by decide⟩) (fun s1 R1 => g_122 R1 hno hb (fun q => by rcases q with q | q <;> exact absurd q (by decide)) (fun _ s2 R2 => e_c12_qSums_15 (br_t rfl (r_53 hv ρ C s2 R2 h))) (fun _ _ q => absurd rfl q))
theorem LP_bad {v1 : Int32} {Q : sT → Prop} {s : sT} {f pl : Nat} {s0 : sT} (F : Fr XPR s0 s) (X : RY s f pl) (h : ∀ s', Fr XPR s0 s' → RY s' f pl → Q s') : c12_qSums_15 v1 (0 : Int32) Q s :=
  e_c12_qSums_15 (br_t rfl (e_c12_qSums_53 (br_f (RX_n0 X.1) (fun u hu => h u (by rw [hu]; exact fr_wI F rfl) (RY_w X hu (by omega))))))
