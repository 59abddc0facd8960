-- a test, in the reference
def FFt (Q : sT → Prop) : Int32 → sT → Prop := fun y u => (y = 0 → c12_qTest_2 (0 : Int32) Q u) ∧ (¬ y = 0 → c12_qTest_2 (1 : Int32) Q u)
def KKt (Q : sT → Prop) : sT → Prop := fun u => ((rI u 162 5) = 0 → c12_qGoesOnTest (FFt Q) u) ∧ (¬ (rI u 162 5) = 0 → c12_qTest_2 (0 : Int32) Q u)
def TWt (Q : sT → Prop) (s : sT) : Prop := c12_qTest_2 (1 : Int32) Q s
def EEt (Q : sT → Prop) (s : sT) : Prop := ∀ K : sT → Prop, (∀ u, rI u 162 5 = 0 → c12_qGoesOnTest (FFt Q) u → K u) → c12_qDropsNots K s
def FQt (Q : sT → Prop) : sT → Prop := fun u => c12_qDropsNots (KKt Q) u
theorem EEt_KK {Q : sT → Prop} {s : sT} (h : EEt Q s) : c12_qDropsNots (KKt Q) s := h _ (fun _ h5 g => ⟨fun _ => g, fun q => absurd h5 q⟩)
theorem EEt_G {Q : sT → Prop} {s : sT} (h : EEt Q s) : c12_qDropsNots (fun s => c12_qGoesOnTest (FFt Q) s) s := h _ (fun _ _ g => g)
theorem T0_bad {Q : sT → Prop} {s : sT} {f pl : Nat} (X : RX s f pl) (h : Q s) : c12_qTest_2 (0 : Int32) Q s := e_c12_qTest_2 (br_t rfl (e_c12_qTest_110 (br_f (RX_n0 X) h)))
theorem T1_bad {Q : sT → Prop} {s : sT} {f pl : Nat} (X : RX s f pl) (h : Q s) : c12_qTest_2 (1 : Int32) Q s := e_c12_qTest_2 (br_f (by decide) (br_f (RX_n0 X) (e_c12_qTest_110 (br_f (RX_n0 X) h))))
theorem FQ_bad {Q : sT → Prop} {s : sT} {f pl : Nat} (X : RX s f pl) (h : Q s) : FQt Q s := e_c12_qDropsNots (br_f (RX_n0 X) ⟨fun q => absurd q (RX_n0 X), fun _ => T0_bad X h⟩)
theorem t_not {Q : sT → Prop} {s0 s : sT} {b : Nat → Nat} {n tk o B d : Nat} {P : pT} {C W : List Nat} (R : RC s0 s b n tk P C W o B (d + 1)) (hT : tok b n P = tWd [110, 111, 116]) (h1 : o < 6 → ∀ s', RC s0 s' b n tk (adv b n P) C (W ++ [12]) (o + 1) B (d + 1) → TWt Q s') (h0 : o = 6 → ∀ s', Fr XPR s0 s' → RY s' 4 P.1 → Q s') : TWt Q s := by
  refine e_c12_qTest_2 (br_f (by decide) (br_t R.2.2.1.1 (r_lookC R (fun s1 R1 N1 => br_f (lk_ne (c := 91) R.2.1.1 (by decide) (by decide) (tw_sg hT)) (r_hereC (t := 219) (l := [110, 111, 116]) (by decide) R1 (fun _ s2 R2 N2 => yes1 ?_) (fun q _ _ _ => absurd hT q))))))
  rw [N2.2.1]
  exact r_opens (v := 12) (by decide) R2 (fun q s3 R3 _ => r_asksC (t := 219) (l := [110, 111, 116]) (by decide) R3 (fun _ s4 R4 => h1 q s4 R4) (fun q2 _ _ _ => absurd hT q2)) (fun q s3 F3 X3 => r_asksBad (RX_n0 X3.1) (T1_bad X3.1 (h0 q s3 F3 X3)))
theorem t_sq {Q : sT → Prop} {s0 s : sT} {b : Nat → Nat} {n tk o B d : Nat} {P : pT} {C W : List Nat} (R : RC s0 s b n tk P C W o B (d + 1)) (hT : tok b n P = tSg 91) (h1 : o < 6 → ∀ s', RC s0 s' b n tk (adv b n P) C (W ++ [25]) (o + 1) B (d + 1) → TWt Q s') (h0 : o = 6 → ∀ s', Fr XPR s0 s' → RY s' 4 P.1 → Q s') : TWt Q s := by
  obtain ⟨q1, q2, q3⟩ := tok_sign.1 hT
  refine e_c12_qTest_2 (br_f (by decide) (br_t R.2.2.1.1 (r_lookC R (fun s1 R1 N1 => br_t ((lkv_sign R.2.1.1 (c := 91) (by decide) (by decide)).2 hT) ?_))))
  rw [N1.2.1]
  refine r_opens (v := 25) (by decide) R1 (fun q s3 R3 e3 u hu => ?_) (fun q s3 F3 X3 u hu => ?_)
  · exact h1 q u (r_passC R3 (RN_of N1 R3.2.2.1 e3) q1 q2 hu)
  · have X4 : RY u 4 P.1 := RY_w X3 hu (by omega)
    exact T1_bad X4.1 (h0 q u (by rw [hu]; exact fr_wI F3 rfl) X4)
theorem t_all {Q : sT → Prop} {s0 s : sT} {b : Nat → Nat} {n tk o B d : Nat} {P : pT} {C W : List Nat} (R : RC s0 s b n tk P C W o B d) (hT : tok b n P = tWd [97, 108, 108]) (h : ∀ s', RC s0 s' b n tk (adv b n P) (C ++ [13]) W o B d → EEt Q s') : TWt Q s :=
  e_c12_qTest_2 (br_f (by decide) (br_t R.2.2.1.1 (r_lookC R (fun s1 R1 N1 => br_f (lk_ne (c := 91) R.2.1.1 (by decide) (by decide) (tw_sg hT)) (r_hereC (t := 219) (l := [110, 111, 116]) (by decide) R1 (fun q _ _ _ => absurd q (tw_ne hT (by decide))) (fun _ s2 R2 N2 => no0 (e_c12_qFact (r_takesC (t := 222) (l := [97, 108, 108]) (by decide) R2 (fun _ s3 R3 => yes1 (r_code (v := 13) R3 (fun s4 R4 => EEt_KK (h s4 R4)))) (fun q _ _ _ => absurd hT q)))))))))
def CQ2 (F : sT → Prop) (y : Int32) : sT → Prop := fun u9 => (y = (60 : Int32) → c12_qCode (7 : Int32) F u9) ∧ (¬ y = (60 : Int32) → (y = (62 : Int32) → c12_qCode (8 : Int32) F u9) ∧ (¬ y = (62 : Int32) → c12_qCode (9 : Int32) F u9))
def CQ1 (F : sT → Prop) : sT → Prop := fun u3 => ((rI u3 162 5) = 0 → c12_look (fun y4 u5 => (y4 = (60 : Int32) → ∀ u8 : sT, u8 = wI u5 162 2 ((rI u5 162 2) + (1 : Int32)) → c12_qSums (CQ2 F y4) u8) ∧ (¬ y4 = (60 : Int32) → (y4 = (62 : Int32) → ∀ u13 : sT, u13 = wI u5 162 2 ((rI u5 162 2) + (1 : Int32)) → c12_qSums (CQ2 F y4) u13) ∧ (¬ y4 = (62 : Int32) → (y4 = (61 : Int32) → ∀ u18 : sT, u18 = wI u5 162 2 ((rI u5 162 2) + (1 : Int32)) → c12_qSums (CQ2 F y4) u18) ∧ (¬ y4 = (61 : Int32) → c12_fail (1 : Int32) (rI u5 162 2) F u5)))) u3) ∧ (¬ (rI u3 162 5) = 0 → F u3)
theorem r_sums {Q : sT → Prop} {s0 s : sT} {b : Nat → Nat} {n tk o B d : Nat} {P : pT} {C W : List Nat} (R : RC s0 s b n tk P C W o B d) (h : ∀ s', RC s0 s' b n tk P C W o W.length d → SWq (nI B) Q s') : c12_qSums Q s := by
  refine e_c12_qSums (fun x hx u hu => ?_)
  rw [R.2.2.2.2.2.2.2.1] at hx
  rw [R.2.2.2.2.2.1.1] at hu
  rw [hx]
  have R1 := r_base R (Nat.le_refl _) hu
  exact SW_go R1.2.2.1.1 (h u R1)
theorem t_cmp {Q : sT → Prop} {s0 s : sT} {b : Nat → Nat} {n tk o B d : Nat} {P : pT} {C W : List Nat} (R : RC s0 s b n tk P C W o B d) (n1 : tok b n P ≠ tSg 91) (n2 : tok b n P ≠ tWd [110, 111, 116]) (n3 : tok b n P ≠ tWd [97, 108, 108]) (h : ∀ s', RC s0 s' b n tk P C W o W.length d → SWq (nI B) (CQ1 (FQt Q)) s') : TWt Q s :=
  e_c12_qTest_2 (br_f (by decide) (br_t R.2.2.1.1 (r_lookC R (fun s1 R1 N1 => br_f (lk_ne (c := 91) R.2.1.1 (by decide) (by decide) n1) (r_hereC (t := 219) (l := [110, 111, 116]) (by decide) R1 (fun q _ _ _ => absurd q n2) (fun _ s2 R2 N2 => no0 (e_c12_qFact (r_takesC (t := 222) (l := [97, 108, 108]) (by decide) R2 (fun q _ _ => absurd q n3) (fun _ s3 R3 _ => no0 (r_sums R3 (fun s4 R4 => h s4 R4)))))))))))
theorem cq1_go {c : Nat} {F : sT → Prop} {s0 s : sT} {b : Nat → Nat} {n tk o B d : Nat} {P : pT} {C W : List Nat} (hc : c = 60 ∨ c = 62 ∨ c = 61) (R : RC s0 s b n tk P C W o B d) (hT : tok b n P = tSg c) (h : ∀ s', RC s0 s' b n tk (adv b n P) C W o W.length (d + 1) → SWq (nI B) (CQ2 F (nI c)) s') : CQ1 F s := by
  obtain ⟨q1, q2, q3⟩ := tok_sign.1 hT
  refine br_t R.2.2.1.1 (r_lookC R (fun s1 R1 N1 => ?_))
  have el : lkv b n P = nI c := by
    unfold lkv
    rw [if_pos q1, q3]
  rw [el]
  have go : ∀ u : sT, u = wI s1 162 2 ((rI s1 162 2) + (1 : Int32)) → c12_qSums (CQ2 F (nI c)) u := fun u hu => r_sums (r_passC R1 N1 q1 q2 hu) h
  rcases hc with rfl | rfl | rfl
  · exact br_t rfl go
  · exact br_f (by decide) (br_t rfl go)
  · exact br_f (by decide) (br_f (by decide) (br_t rfl go))
theorem cq1_no {F : sT → Prop} {s0 s : sT} {b : Nat → Nat} {n tk o B d : Nat} {P : pT} {C W : List Nat} (R : RC s0 s b n tk P C W o B d) (n1 : tok b n P ≠ tSg 60) (n2 : tok b n P ≠ tSg 62) (n3 : tok b n P ≠ tSg 61) (h : ∀ s', Fr XPR s0 s' → RY s' 1 P.1 → F s') : CQ1 F s := by
  refine br_t R.2.2.1.1 (r_lookC R (fun s1 R1 N1 => br_f (lk_ne (c := 60) R.2.1.1 (by decide) (by decide) n1) (br_f (lk_ne (c := 62) R.2.1.1 (by decide) (by decide) n2) (br_f (lk_ne (c := 61) R.2.1.1 (by decide) (by decide) n3) ?_))))
  rw [N1.2.1]
  exact r_fail (f := 1) R1.2.2.1.1 (by decide) (fun s2 F2 X2 => h s2 (fr_tr R1.1 (fr_mo F2 fun a j q => xpr_l q)) (RY_of R1 F2 X2))
theorem cq1_bad {F : sT → Prop} {s : sT} {f pl : Nat} (X : RX s f pl) (h : F s) : CQ1 F s := br_f (RX_n0 X) h
theorem cq2_go {c v : Nat} {F : sT → Prop} {s0 s : sT} {b : Nat → Nat} {n tk o B d : Nat} {P : pT} {C W : List Nat} (hc : c = 60 ∧ v = 7 ∨ c = 62 ∧ v = 8 ∨ c = 61 ∧ v = 9) (R : RC s0 s b n tk P C W o B (d + 1)) (h : ∀ s', RC s0 s' b n tk P (C ++ [v]) W o B d → F s') : CQ2 F (nI c) s := by
  have go := r_code (v := v) R h
  rcases hc with ⟨rfl, rfl⟩ | ⟨rfl, rfl⟩ | ⟨rfl, rfl⟩
  · exact br_t rfl go
  · exact br_f (by decide) (br_t rfl go)
  · exact br_f (by decide) (br_f (by decide) go)
theorem cq2_bad {y : Int32} {F : sT → Prop} {s0 s : sT} {f pl : Nat} (F0 : Fr XPR s0 s) (X : RY s f pl) (h : ∀ s', Fr XPR s0 s' → RX s' f pl → F s') : CQ2 F y s := by
  obtain ⟨X1, c, x5, x6⟩ := X
  have go : ∀ v : Int32, c12_qCode v F s := fun v => e_c12_qCode ⟨by rw [x6]; exact vp_in_nI (by omega) (by decide), fun u hu w hw => h w (by rw [hw, hu]; exact fr_wI (fr_wI F0 rfl) rfl) ⟨by rw [hw, rI_wI, if_neg (by omega), hu, rI_wI, if_neg (by omega)]; exact X1.1, X1.2.1, X1.2.2.1, by rw [hw, rI_wI, if_neg (by omega), hu, rI_wI, if_neg (by omega)]; exact X1.2.2.2⟩⟩
  exact br_c (fun _ => go _) (fun _ => br_c (fun _ => go _) (fun _ => go _))
theorem r_87 {v : Nat} {s0 : sT} {b : Nat → Nat} {n tk o B d : Nat} {P : pT} {W : List Nat} {Q : Int32 → sT → Prop} (hB : B ≤ W.length) (t10 : ¬ lst W 10) : ∀ (ρ C : List Nat) (s : sT), RC s0 s b n tk P C (W ++ ρ.reverse) o B (d + 1) → (∀ x, x ∈ ρ → x = 10) → (∀ s', RC s0 s' b n tk P (C ++ ρ) (W ++ [10]) o B d → Q 1 s') → c12_qGoesOnTest_87 Q s
  | [], C, s, R, g, h => by
    rw [List.reverse_nil, List.append_nil] at R
    rw [List.append_nil] at h
    have hle := RC_le R
    exact e_c12_qGoesOnTest_87 (r_isOn (v := 10) (by decide) R (fun q => absurd q t10) (fun _ => no0 ⟨by rw [R.2.2.2.2.2.1.1]; exact vp_in_nI (by omega) (by decide), fun u hu w hw => h w (r_wait (v := 10) (by decide) R hu hw)⟩))
  | x :: r, C, s, R, g, h => by
    rw [rev_c] at R
    have hx := g x List.mem_cons_self
    refine e_c12_qGoesOnTest_87 (r_isOn (v := 10) (by decide) R (fun _ => yes1 (r_drop R (by rw [List.length_append]; omega) (fun s1 R1 => r_87 (v := v) hB t10 r (C ++ [x]) s1 R1 (fun y hy => g y (List.mem_cons_of_mem _ hy)) (by rw [app_c]; exact h)))) (fun q => ?_))
    rw [lst_ap] at q
    omega
theorem r_137 {s0 : sT} {b : Nat → Nat} {n tk o B d : Nat} {P : pT} {W : List Nat} {Q : Int32 → sT → Prop} (hB : B ≤ W.length) (t10 : ¬ lst W 10) (t11 : ¬ lst W 11) : ∀ (ρ C : List Nat) (s : sT), RC s0 s b n tk P C (W ++ ρ.reverse) o B (d + 1) → (∀ x, x ∈ ρ → x = 10 ∨ x = 11) → (∀ s', RC s0 s' b n tk P (C ++ ρ) (W ++ [11]) o B d → Q 1 s') → c12_qGoesOnTest_137 Q s
  | [], C, s, R, g, h => by
    rw [List.reverse_nil, List.append_nil] at R
    rw [List.append_nil] at h
    have hle := RC_le R
    exact e_c12_qGoesOnTest_137 (r_isOn (v := 10) (by decide) R (fun q => absurd q t10) (fun _ => no0 (r_isOn (v := 11) (by decide) R (fun q => absurd q t11) (fun _ => no0 ⟨by rw [R.2.2.2.2.2.1.1]; exact vp_in_nI (by omega) (by decide), fun u hu w hw => h w (r_wait (v := 11) (by decide) R hu hw)⟩))))
  | x :: r, C, s, R, g, h => by
    rw [rev_c] at R
    have hx := g x List.mem_cons_self
    have go : c12_qDrops (fun u => c12_qGoesOnTest_137 Q u) s := r_drop R (by rw [List.length_append]; omega) (fun s1 R1 => r_137 hB t10 t11 r (C ++ [x]) s1 R1 (fun y hy => g y (List.mem_cons_of_mem _ hy)) (by rw [app_c]; exact h))
    refine e_c12_qGoesOnTest_137 (r_isOn (v := 10) (by decide) R (fun _ => yes1 go) (fun q => no0 (r_isOn (v := 11) (by decide) R (fun _ => yes1 go) (fun q2 => ?_))))
    rw [lst_ap] at q q2
    omega
/-- is a square bracket open -/
theorem r_sq1 {s0 s : sT} {b : Nat → Nat} {n tk o B d : Nat} {P : pT} {C W : List Nat} {Q : Int32 → sT → Prop} (R : RC s0 s b n tk P C W o B d) (h25 : 25 ∈ W) (h : Q 1 s) : c12_qHasSquare Q s := by
  have hle := RC_le R
  obtain ⟨r7, r8⟩ := R.2.2.2.2.2.1
  obtain ⟨i, hi, hv⟩ := List.getElem_of_mem h25
  have main : ∀ m k, k + m = W.length → k ≤ i → c12_qHasSquare_2 (nI k) Q s := by
    intro m
    induction m with
    | zero => intro k e hk; omega
    | succ m ih =>
      intro k e hk
      obtain ⟨e1, e2⟩ := r8 k (by omega)
      refine e_c12_qHasSquare_2 (br_t (by rw [r7]; exact nI_lt (by omega) (by omega)) ⟨vp_in_nI (by omega) (by decide), ?_⟩)
      rw [nI_clamp (by omega), e1, show (25 : Int32) = nI 25 from rfl, nI_eq (by omega) (by decide), nI_1]
      refine br_c (fun _ => h) (fun q => ih (k + 1) (by omega) ?_)
      rcases Nat.lt_or_ge k i with y | y
      · omega
      · have : k = i := by omega
        subst this
        exact absurd hv q
  exact e_c12_qHasSquare (main W.length 0 (Nat.zero_add _) (Nat.zero_le _))
theorem r_sq0 {s0 s : sT} {b : Nat → Nat} {n tk o B d : Nat} {P : pT} {C W : List Nat} {Q : Int32 → sT → Prop} (R : RC s0 s b n tk P C W o B d) (h25 : 25 ∉ W) (h : Q 0 s) : c12_qHasSquare Q s := by
  have hle := RC_le R
  obtain ⟨r7, r8⟩ := R.2.2.2.2.2.1
  have main : ∀ m k, k + m = W.length → c12_qHasSquare_2 (nI k) Q s := by
    intro m
    induction m with
    | zero =>
      intro k e
      exact e_c12_qHasSquare_2 (br_f (by rw [r7]; exact nI_nlt (by omega) (by omega)) h)
    | succ m ih =>
      intro k e
      obtain ⟨e1, e2⟩ := r8 k (by omega)
      refine e_c12_qHasSquare_2 (br_t (by rw [r7]; exact nI_lt (by omega) (by omega)) ⟨vp_in_nI (by omega) (by decide), ?_⟩)
      rw [nI_clamp (by omega), e1, show (25 : Int32) = nI 25 from rfl, nI_eq (by omega) (by decide), nI_1]
      refine br_c (fun q => ?_) (fun _ => ih (k + 1) (by omega))
      exact absurd (by rw [← q]; exact List.getElem_mem _) h25
  exact e_c12_qHasSquare (main W.length 0 (Nat.zero_add _))
theorem FT_go {Q : sT → Prop} {s : sT} (h : TWt Q s) : FFt Q 1 s := yes1 h
theorem t_and {Q : sT → Prop} {s0 s : sT} {b : Nat → Nat} {n tk o B d : Nat} {P : pT} {C W ρ : List Nat} (R : RC s0 s b n tk P C (W ++ ρ.reverse) o B d) (hT : tok b n P = tWd [97, 110, 100]) (hB : B ≤ W.length) (t10 : ¬ lst W 10) (g : ∀ x, x ∈ ρ → x = 10) (h : ∀ s', RC s0 s' b n tk (adv b n P) (C ++ ρ) (W ++ [10]) o B d → TWt Q s') : c12_qGoesOnTest (FFt Q) s :=
  e_c12_qGoesOnTest (br_t R.2.2.1.1 (r_lookC R (fun s1 R1 _ => br_f (lk_ne (c := 93) R.2.1.1 (by decide) (by decide) (tw_sg hT)) (e_c12_qGoesOnTest_76 (r_takesC (t := 220) (l := [97, 110, 100]) (by decide) R1 (fun _ s2 R2 => yes1 (r_87 (v := 0) hB t10 ρ C s2 R2 g (fun s3 R3 => FT_go (h s3 R3)))) (fun q _ _ _ => absurd hT q))))))
theorem t_or {Q : sT → Prop} {s0 s : sT} {b : Nat → Nat} {n tk o B d : Nat} {P : pT} {C W ρ : List Nat} (R : RC s0 s b n tk P C (W ++ ρ.reverse) o B d) (hT : tok b n P = tWd [111, 114]) (hB : B ≤ W.length) (t10 : ¬ lst W 10) (t11 : ¬ lst W 11) (g : ∀ x, x ∈ ρ → x = 10 ∨ x = 11) (h : ∀ s', RC s0 s' b n tk (adv b n P) (C ++ ρ) (W ++ [11]) o B d → TWt Q s') : c12_qGoesOnTest (FFt Q) s :=
  e_c12_qGoesOnTest (br_t R.2.2.1.1 (r_lookC R (fun s1 R1 _ => br_f (lk_ne (c := 93) R.2.1.1 (by decide) (by decide) (tw_sg hT)) (e_c12_qGoesOnTest_76 (r_takesC (t := 220) (l := [97, 110, 100]) (by decide) R1 (fun q _ _ => absurd q (tw_ne hT (by decide))) (fun _ s2 R2 _ => no0 (r_takesC (t := 221) (l := [111, 114]) (by decide) R2 (fun _ s3 R3 => yes1 (r_137 hB t10 t11 ρ C s3 R3 g (fun s4 R4 => FT_go (h s4 R4)))) (fun q _ _ _ => absurd hT q))))))))
theorem r_33 {X0 : sT → Prop} {Q : Int32 → sT → Prop} {s0 : sT} {b : Nat → Nat} {n tk o B d : Nat} {P : pT} {W : List Nat} (hB : B ≤ W.length) : ∀ (ρ C : List Nat) (s : sT), RC s0 s b n tk P C (W ++ [25] ++ ρ.reverse) (o + 1) B d → (∀ x, x ∈ ρ → x = 10 ∨ x = 11) → (∀ s', RC s0 s' b n tk P (C ++ ρ) W o B d → c12_qDropsNots X0 s') → c12_qGoesOnTest_33 Q X0 s
  | [], C, s, R, g, h => by
    rw [List.reverse_nil, List.append_nil] at R
    rw [List.append_nil] at h
    have ho := R.2.2.2.2.2.2.2.2.2.2.1
    refine e_c12_qGoesOnTest_33 (r_isOn (v := 25) (by decide) R (fun _ => yes1 (fun u hu w hw => ?_)) (fun q => absurd ⟨W, rfl⟩ q))
    obtain ⟨R3, e1, e2⟩ := r_unwait R hB hu
    rw [R3.2.2.2.2.2.2.1, show (nI (o + 1) - (1 : Int32)) = nI o from nI_pred _] at hw
    exact h w (RC_d (r_opened R3 (by omega) hw) (by omega))
  | x :: r, C, s, R, g, h => by
    rw [rev_c] at R
    have hx := g x List.mem_cons_self
    refine e_c12_qGoesOnTest_33 (r_isOn (v := 25) (by decide) R (fun q => ?_) (fun _ => no0 (r_drop R (by rw [List.length_append, List.length_append]; omega) (fun s1 R1 => r_33 hB r (C ++ [x]) s1 R1 (fun y hy => g y (List.mem_cons_of_mem _ hy)) (by rw [app_c]; exact h)))))
    rw [lst_ap] at q
    omega
theorem t_close {Q : sT → Prop} {s0 s : sT} {b : Nat → Nat} {n tk o B d : Nat} {P : pT} {C W ρ : List Nat} (R : RC s0 s b n tk P C (W ++ [25] ++ ρ.reverse) (o + 1) B d) (hT : tok b n P = tSg 93) (hB : B ≤ W.length) (g : ∀ x, x ∈ ρ → x = 10 ∨ x = 11) (h : ∀ s', RC s0 s' b n tk (adv b n P) (C ++ ρ) W o B d → EEt Q s') : c12_qGoesOnTest (FFt Q) s := by
  obtain ⟨q1, q2, q3⟩ := tok_sign.1 hT
  have hm : 25 ∈ W ++ [25] ++ ρ.reverse := List.mem_append.2 (Or.inl (List.mem_append.2 (Or.inr (List.mem_singleton.2 rfl))))
  refine e_c12_qGoesOnTest (br_t R.2.2.1.1 (r_lookC R (fun s1 R1 N1 => br_t ((lkv_sign R.2.1.1 (c := 93) (by decide) (by decide)).2 hT) (r_sq1 R1 hm (yes1 (fun u hu => r_33 hB ρ C u (r_passC R1 N1 q1 q2 hu) g (fun s2 R2 => EEt_G (h s2 (RC_d R2 (by omega))))))))))
theorem t_76 {Q : sT → Prop} {s0 s : sT} {b : Nat → Nat} {n tk o B d : Nat} {P : pT} {C W : List Nat} (R : RC s0 s b n tk P C W o B d) (na : tok b n P ≠ tWd [97, 110, 100]) (no : tok b n P ≠ tWd [111, 114]) (h1 : 25 ∈ W → ∀ s', Fr XPR s0 s' → RY s' 1 P.1 → Q s') (h0 : 25 ∉ W → ∀ s', RC s0 s' b n tk P C W o B d → c12_qTest_2 (0 : Int32) Q s') : c12_qGoesOnTest_76 (FFt Q) s := by
  refine e_c12_qGoesOnTest_76 (r_takesC (t := 220) (l := [97, 110, 100]) (by decide) R (fun q _ _ => absurd q na) (fun _ s2 R2 _ => no0 (r_takesC (t := 221) (l := [111, 114]) (by decide) R2 (fun q _ _ => absurd q no) (fun _ s3 R3 N3 => no0 (br_t R3.2.2.1.1 ?_)))))
  by_cases q : 25 ∈ W
  · refine r_sq1 R3 q (yes1 ?_)
    rw [N3.2.1]
    exact r_fail (f := 1) R3.2.2.1.1 (by decide) (fun s4 F4 X4 => no0 (T0_bad X4 (h1 q s4 (fr_tr R3.1 (fr_mo F4 fun a j q => xpr_l q)) (RY_of R3 F4 X4))))
  · exact r_sq0 R3 q (no0 (no0 (h0 q s3 R3)))
theorem t_stop {Q : sT → Prop} {s0 s : sT} {b : Nat → Nat} {n tk o B d : Nat} {P : pT} {C W ρ : List Nat} (R : RC s0 s b n tk P C (W ++ [25] ++ ρ.reverse) o B d) (n93 : tok b n P ≠ tSg 93) (na : tok b n P ≠ tWd [97, 110, 100]) (no : tok b n P ≠ tWd [111, 114]) (h : ∀ s', Fr XPR s0 s' → RY s' 1 P.1 → Q s') : c12_qGoesOnTest (FFt Q) s := by
  have hm : 25 ∈ W ++ [25] ++ ρ.reverse := List.mem_append.2 (Or.inl (List.mem_append.2 (Or.inr (List.mem_singleton.2 rfl))))
  exact e_c12_qGoesOnTest (br_t R.2.2.1.1 (r_lookC R (fun s1 R1 N1 => br_f (lk_ne (c := 93) R.2.1.1 (by decide) (by decide) n93) (t_76 R1 na no (fun _ => h) (fun q => absurd hm q)))))
theorem r_110 {Q : sT → Prop} {s0 : sT} {b : Nat → Nat} {n tk o d : Nat} {P : pT} : ∀ (ρ C : List Nat) (s : sT), RC s0 s b n tk P C ([] ++ ρ.reverse) o 0 d → (∀ s', RC s0 s' b n tk P (C ++ ρ) [] o 0 d → Q s') → c12_qTest_110 Q s
  | [], C, s, R, h => by
    rw [List.append_nil] at h
    have R : RC s0 s b n tk P C [] o 0 d := R
    exact e_c12_qTest_110 (br_t R.2.2.1.1 (br_f (by rw [R.2.2.2.2.2.1.1]; decide) (h s R)))
  | x :: r, C, s, R, h => by
    rw [rev_c] at R
    have hle := RC_le R
    rw [List.length_append, List.length_singleton] at hle
    refine e_c12_qTest_110 (br_t R.2.2.1.1 (br_t ?_ (r_drop R (Nat.zero_le _) (fun s1 R1 => r_110 r (C ++ [x]) s1 R1 (by rw [app_c]; exact h)))))
    rw [(r_top R).1]
    exact nI_lt (a := 0) (by omega) (by omega)
theorem t_end {Q : sT → Prop} {s0 s : sT} {b : Nat → Nat} {n tk o d : Nat} {P : pT} {C ρ : List Nat} (R : RC s0 s b n tk P C ([] ++ ρ.reverse) o 0 d) (g : ∀ x, x ∈ ρ → x = 10 ∨ x = 11) (na : tok b n P ≠ tWd [97, 110, 100]) (no : tok b n P ≠ tWd [111, 114]) (h : ∀ s', RC s0 s' b n tk P (C ++ ρ) [] o 0 d → Q s') : c12_qGoesOnTest (FFt Q) s := by
  have hm : 25 ∉ [] ++ ρ.reverse := fun y => by
    have := g 25 (List.mem_reverse.1 (by rw [List.nil_append] at y; exact y))
    omega
  have go : ∀ s1, RC s0 s1 b n tk P C ([] ++ ρ.reverse) o 0 d → c12_qGoesOnTest_76 (FFt Q) s1 := fun s1 R1 => t_76 R1 na no (fun q => absurd q hm) (fun _ s2 R2 => e_c12_qTest_2 (br_t rfl (r_110 ρ C s2 R2 h)))
  exact e_c12_qGoesOnTest (br_t R.2.2.1.1 (r_lookC R (fun s1 R1 N1 => br_c (fun _ => r_sq0 R1 hm (no0 (go s1 R1))) (fun _ => go s1 R1))))
theorem EEt_to {Q : sT → Prop} {s0 s : sT} {b : Nat → Nat} {n tk o B d : Nat} {P : pT} {C W : List Nat} (R : RC s0 s b n tk P C W o B d) (h12 : ¬ lst W 12) (h : c12_qGoesOnTest (FFt Q) s) : EEt Q s := fun K g => e_c12_qDropsNots (br_t R.2.2.1.1 (r_isOn (v := 12) (by decide) R (fun q => absurd q h12) (fun _ => no0 (g s R.2.2.1.1 h))))
theorem EEt_12 {Q : sT → Prop} {s0 s : sT} {b : Nat → Nat} {n tk o B d : Nat} {P : pT} {C W : List Nat} (hB : B ≤ W.length) (R : RC s0 s b n tk P C (W ++ [12]) (o + 1) B d) (h : ∀ s', RC s0 s' b n tk P (C ++ [12]) W o B d → EEt Q s') : EEt Q s := fun K g => by
  have ho := R.2.2.2.2.2.2.2.2.2.2.1
  refine e_c12_qDropsNots (br_t R.2.2.1.1 (r_isOn (v := 12) (by decide) R (fun _ => yes1 (fun u hu => ?_)) (fun q => absurd ⟨W, rfl⟩ q)))
  rw [R.2.2.2.2.2.2.1, show (nI (o + 1) - (1 : Int32)) = nI o from nI_pred _] at hu
  exact r_drop (r_opened R (by omega) hu) hB (fun s1 R1 => h s1 R1 K g)
