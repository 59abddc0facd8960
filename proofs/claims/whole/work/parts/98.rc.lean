-- the reference while it reads a sum or a test
def XPR (a j : Nat) : Bool := XLR a j || ((Nat.beq a 162 && (Nat.beq j 101 || (Nat.beq j 103 || (Nat.beq j 104 || Nat.beq j 105)))) || (Nat.beq a 237 || Nat.beq a 238))
theorem xpr_l {a j : Nat} (h : XLR a j = true) : XPR a j = true := by unfold XPR; rw [h]; rfl
theorem xpr_2 {a j : Nat} (h : X2R a j = true) : XPR a j = true := xpr_l (xlr_2 h)
/-- the tape, and no fault -/
def TRf (s : sT) (b : Nat → Nat) (n : Nat) : Prop := TR s b n ∧ rI s 162 6 = (-1 : Int32)
/-- tape, place, codes, waits, open ones, base, kind of text -/
def RC (s0 s : sT) (b : Nat → Nat) (n tk : Nat) (P : pT) (C W : List Nat) (o B d : Nat) : Prop := Fr XPR s0 s ∧ TRf s b n ∧ RLx s b n P ∧ IC s ∧ (rI s 162 101 = nI C.length ∧ ∀ k (h : k < C.length), rI s 237 k = nI C[k]) ∧ (rI s 162 103 = nI W.length ∧ ∀ k (h : k < W.length), rI s 238 k = nI W[k] ∧ W[k] < 100) ∧ rI s 162 104 = nI o ∧ rI s 162 105 = nI B ∧ rI s 162 50 = nI tk ∧ C.length + W.length + d ≤ P.1 + 5 ∧ o ≤ 6 ∧ B ≤ W.length ∧ tk ≤ 2
theorem oxp_C : off fIC XPR := fun a j q => by
  unfold fIC at q
  unfold XPR XLR
  rw [Bool.eq_false_iff]
  intro y
  simp only [Bool.or_eq_true, Bool.and_eq_true, Nat.beq_eq, Nat.ble_eq] at *
  omega
theorem wl_all : ∀ q, q ∈ wRows → LN q.1 = q.2.length ∧ q.2.length < 100 ∧ q.1 ≠ 162 ∧ q.2.all (fun c => Nat.blt c 256) = true := by decide +kernel
theorem wl_of {s : sT} {t : Nat} {l : List Nat} (I : IC s) (h : (t, l) ∈ wRows) : wlR s t l := by
  obtain ⟨h1, h2, h3, h4⟩ := wl_all _ h
  refine ⟨h1, h2, fun k hk => ?_, I.2 _ h⟩
  have := List.all_eq_true.1 h4 _ (List.getElem_mem hk)
  rw [Nat.blt_eq] at this
  exact this
/-- what was read goes on, all else stays -/
theorem RC_l {s0 s s' : sT} {b : Nat → Nat} {n tk o B d : Nat} {P P' : pT} {C W : List Nat} (R : RC s0 s b n tk P C W o B d) (F : Fr XLS s s') (L : RLx s' b n P') (hP : P.1 ≤ P'.1) : RC s0 s' b n tk P' C W o B d := by
  obtain ⟨r1, r2, r3, r4, ⟨r5, r6⟩, ⟨r7, r8⟩, r9, r10, r11, r12, r13⟩ := R
  exact ⟨fr_tr r1 (fr_mo F fun a j q => xpr_l (xls_r q)), ⟨TR_fr F rfl (fun _ => rfl) r2.1, by rw [F.1 _ _ rfl]; exact r2.2⟩, L, IC_fr (fr_mo F fun a j q => xpr_l (xls_r q)) oxp_C r4, ⟨by rw [F.1 _ _ rfl]; exact r5, fun k h => by rw [F.1 _ _ rfl]; exact r6 k h⟩, ⟨by rw [F.1 _ _ rfl]; exact r7, fun k h => by rw [F.1 _ _ rfl]; exact r8 k h⟩, by rw [F.1 _ _ rfl]; exact r9, by rw [F.1 _ _ rfl]; exact r10, by rw [F.1 _ _ rfl]; exact r11, by omega, r13⟩
theorem adv_gt {b : Nat → Nat} {n : Nat} {P : pT} : P.1 < (adv b n P).1 := by
  have h1 := eot_gt (b := b) (n := n) (i := P.1)
  have h2 := skp_ge (b := b) (n := n) (i := eot b n P.1)
  show P.1 < skp b n (eot b n P.1)
  omega
/-- one token less to be read gives room for one more -/
theorem RC_a {s0 s : sT} {b : Nat → Nat} {n tk o B d : Nat} {P : pT} {C W : List Nat} (R : RC s0 s b n tk P C W o B d) {s' : sT} (F : Fr XLS s s') (L : RLx s' b n (adv b n P)) : RC s0 s' b n tk (adv b n P) C W o B (d + 1) := by
  have h := RC_l R F L (Nat.le_of_lt adv_gt)
  obtain ⟨r1, r2, r3, r4, r5, r6, r9, r10, r11, r12, r13⟩ := h
  have := R.2.2.2.2.2.2.2.2.2.1
  have := adv_gt (b := b) (n := n) (P := P)
  exact ⟨r1, r2, r3, r4, r5, r6, r9, r10, r11, by omega, r13⟩
theorem RC_d {s0 s : sT} {b : Nat → Nat} {n tk o B d d' : Nat} {P : pT} {C W : List Nat} (R : RC s0 s b n tk P C W o B d) (h : d' ≤ d) : RC s0 s b n tk P C W o B d' := by
  obtain ⟨r1, r2, r3, r4, r5, r6, r9, r10, r11, r12, r13⟩ := R
  exact ⟨r1, r2, r3, r4, r5, r6, r9, r10, r11, by omega, r13⟩
theorem RC_le {s0 s : sT} {b : Nat → Nat} {n tk o B d : Nat} {P : pT} {C W : List Nat} (R : RC s0 s b n tk P C W o B d) : C.length + W.length + d ≤ 1605 := by
  have h1 := R.2.1.1.1
  have h2 := R.2.2.1.2.1
  have h3 := R.2.2.2.2.2.2.2.2.2.1
  omega
/-- a fault while a sum or a test is read -/
def RY (s : sT) (f pl : Nat) : Prop := RX s f pl ∧ ∃ c, c ≤ 1640 ∧ rI s 162 101 = nI c
theorem RY_of {s0 s s' : sT} {b : Nat → Nat} {n tk o B d f pl : Nat} {P : pT} {C W : List Nat} (R : RC s0 s b n tk P C W o B d) (F : Fr XLR s s') (X : RX s' f pl) : RY s' f pl := ⟨X, C.length, by have := RC_le R; omega, by rw [F.1 _ _ rfl]; exact R.2.2.2.2.1.1⟩
theorem RY_w {s t : sT} {f pl a j : Nat} {v : Int32} (X : RY s f pl) (e : t = wI s a j v) (h : ¬ (a = 162 ∧ (j = 5 ∨ j = 6 ∨ j = 101))) : RY t f pl := by
  obtain ⟨⟨x1, x2, x3, x4⟩, c, x5, x6⟩ := X
  exact ⟨⟨by rw [e, rI_wI, if_neg (by omega)]; exact x1, x2, x3, by rw [e, rI_wI, if_neg (by omega)]; exact x4⟩, c, x5, by rw [e, rI_wI, if_neg (by omega)]; exact x6⟩
theorem RL_z {s t : sT} {b : Nat → Nat} {n : Nat} {P : pT} {X : Nat → Nat → Bool} (L : RLx s b n P) (F : Fr X s t) (h : X 162 2 = false ∧ X 162 4 = false ∧ X 162 5 = false) : RLx t b n P := RL_fr F h.1 h.2.1 h.2.2 L
/-- a code is written -/
theorem r_code {v : Nat} {s0 s : sT} {b : Nat → Nat} {n tk o B d : Nat} {P : pT} {C W : List Nat} {Q : sT → Prop} (R : RC s0 s b n tk P C W o B (d + 1)) (h : ∀ s', RC s0 s' b n tk P (C ++ [v]) W o B d → Q s') : c12_qCode (nI v) Q s := by
  have hle := RC_le R
  obtain ⟨r1, r2, r3, r4, ⟨r5, r6⟩, ⟨r7, r8⟩, r9, r10, r11, r12, r13⟩ := R
  refine e_c12_qCode ⟨by rw [r5]; exact vp_in_nI (by omega) (by decide), fun u hu w hw => ?_⟩
  rw [r5, nI_clamp (by omega)] at hu
  have u1 : rI u 162 101 = nI C.length := by rw [hu, rI_wI, if_neg (by omega)]; exact r5
  rw [u1, nI_1] at hw
  have F : Fr (fun a j => (Nat.beq a 162 && Nat.beq j 101) || Nat.beq a 237) s w := by rw [hw, hu]; exact fr_wI (fr_wI fr_rf rfl) rfl
  refine h w ⟨fr_tr r1 (fr_mo F fun a j q => ?_), ⟨TR_fr F rfl (fun _ => rfl) r2.1, by rw [F.1 _ _ rfl]; exact r2.2⟩, RL_z r3 F ⟨rfl, rfl, rfl⟩, IC_fr F (fun a j q => ?_) r4, ⟨?_, fun k hk => ?_⟩, ⟨by rw [F.1 _ _ rfl]; exact r7, fun k hk => by rw [F.1 _ _ rfl]; exact r8 k hk⟩, by rw [F.1 _ _ rfl]; exact r9, by rw [F.1 _ _ rfl]; exact r10, by rw [F.1 _ _ rfl]; exact r11, by rw [List.length_append, List.length_singleton]; omega, r13⟩
  · unfold XPR
    simp only [Bool.or_eq_true, Bool.and_eq_true, Nat.beq_eq] at *
    omega
  · unfold fIC at q
    rw [Bool.eq_false_iff]
    intro y
    simp only [Bool.or_eq_true, Bool.and_eq_true, Nat.beq_eq, Nat.ble_eq] at *
    omega
  · rw [hw, rI_wI, if_pos ⟨rfl, rfl⟩, List.length_append, List.length_singleton]
  · rw [List.length_append, List.length_singleton] at hk
    rw [hw, rI_wI, if_neg (by omega), hu, rI_wI]
    by_cases y : k = C.length
    · rw [if_pos ⟨rfl, y⟩]
      subst y
      rw [List.getElem_append_right (Nat.le_refl _)]
      simp
    · rw [if_neg (by omega), r6 k (by omega), List.getElem_append_left (by omega)]
/-- one more waits -/
theorem r_wait {v : Nat} {s0 s u w : sT} {b : Nat → Nat} {n tk o B d : Nat} {P : pT} {C W : List Nat} (hv : v < 100) (R : RC s0 s b n tk P C W o B (d + 1)) (hu : u = wI s 238 (rI s 162 103).toNatClampNeg (nI v)) (hw : w = wI u 162 103 ((rI u 162 103) + (1 : Int32))) : RC s0 w b n tk P C (W ++ [v]) o B d := by
  have hle := RC_le R
  obtain ⟨r1, r2, r3, r4, ⟨r5, r6⟩, ⟨r7, r8⟩, r9, r10, r11, r12, r13, r14, r15⟩ := R
  rw [r7, nI_clamp (by omega)] at hu
  have u1 : rI u 162 103 = nI W.length := by rw [hu, rI_wI, if_neg (by omega)]; exact r7
  rw [u1, nI_1] at hw
  have F : Fr (fun a j => (Nat.beq a 162 && Nat.beq j 103) || Nat.beq a 238) s w := by rw [hw, hu]; exact fr_wI (fr_wI fr_rf rfl) rfl
  refine ⟨fr_tr r1 (fr_mo F fun a j q => ?_), ⟨TR_fr F rfl (fun _ => rfl) r2.1, by rw [F.1 _ _ rfl]; exact r2.2⟩, RL_z r3 F ⟨rfl, rfl, rfl⟩, IC_fr F (fun a j q => ?_) r4, ⟨by rw [F.1 _ _ rfl]; exact r5, fun k hk => by rw [F.1 _ _ rfl]; exact r6 k hk⟩, ⟨?_, fun k hk => ?_⟩, by rw [F.1 _ _ rfl]; exact r9, by rw [F.1 _ _ rfl]; exact r10, by rw [F.1 _ _ rfl]; exact r11, by rw [List.length_append, List.length_singleton]; omega, r13, by rw [List.length_append]; omega, r15⟩
  · unfold XPR
    simp only [Bool.or_eq_true, Bool.and_eq_true, Nat.beq_eq] at *
    omega
  · unfold fIC at q
    rw [Bool.eq_false_iff]
    intro y
    simp only [Bool.or_eq_true, Bool.and_eq_true, Nat.beq_eq, Nat.ble_eq] at *
    omega
  · rw [hw, rI_wI, if_pos ⟨rfl, rfl⟩, List.length_append, List.length_singleton]
  · rw [List.length_append, List.length_singleton] at hk
    rw [hw, rI_wI, if_neg (by omega), hu, rI_wI]
    by_cases y : k = W.length
    · rw [if_pos ⟨rfl, y⟩]
      subst y
      rw [List.getElem_append_right (Nat.le_refl _)]
      simp [hv]
    · rw [if_neg (by omega), List.getElem_append_left (by omega)]
      exact r8 k (by omega)
/-- the last that waits goes -/
theorem r_unwait {v : Nat} {s0 s w : sT} {b : Nat → Nat} {n tk o B d : Nat} {P : pT} {C W : List Nat} (R : RC s0 s b n tk P C (W ++ [v]) o B d) (hB : B ≤ W.length) (hw : w = wI s 162 103 ((rI s 162 103) - (1 : Int32))) : RC s0 w b n tk P C W o B (d + 1) ∧ rI w 162 103 = nI W.length ∧ rI w 238 W.length = nI v := by
  have hle := RC_le R
  obtain ⟨r1, r2, r3, r4, ⟨r5, r6⟩, ⟨r7, r8⟩, r9, r10, r11, r12, r13, r14, r15⟩ := R
  rw [List.length_append, List.length_singleton] at r7 r12 hle
  rw [r7, show (1 : Int32) = nI 1 from rfl, pk_sub (by omega), Nat.add_sub_cancel] at hw
  have F : Fr (fun a j => Nat.beq a 162 && Nat.beq j 103) s w := by rw [hw]; exact fr_wI fr_rf rfl
  have w1 : rI w 162 103 = nI W.length := by rw [hw, rI_wI, if_pos ⟨rfl, rfl⟩]
  refine ⟨⟨fr_tr r1 (fr_mo F fun a j q => ?_), ⟨TR_fr F rfl (fun _ => rfl) r2.1, by rw [F.1 _ _ rfl]; exact r2.2⟩, RL_z r3 F ⟨rfl, rfl, rfl⟩, IC_fr F (fun a j q => ?_) r4, ⟨by rw [F.1 _ _ rfl]; exact r5, fun k hk => by rw [F.1 _ _ rfl]; exact r6 k hk⟩, ⟨w1, fun k hk => ?_⟩, by rw [F.1 _ _ rfl]; exact r9, by rw [F.1 _ _ rfl]; exact r10, by rw [F.1 _ _ rfl]; exact r11, by omega, r13, hB, r15⟩, w1, ?_⟩
  · unfold XPR
    simp only [Bool.or_eq_true, Bool.and_eq_true, Nat.beq_eq] at *
    omega
  · unfold fIC at q
    rw [Bool.eq_false_iff]
    intro y
    simp only [Bool.or_eq_true, Bool.and_eq_true, Nat.beq_eq, Nat.ble_eq] at *
    omega
  · have := r8 k (by rw [List.length_append]; omega)
    rw [List.getElem_append_left hk] at this
    rw [F.1 _ _ rfl]
    exact this
  · have := (r8 W.length (by rw [List.length_append, List.length_singleton]; omega)).1
    rw [List.getElem_append_right (Nat.le_refl _)] at this
    rw [F.1 _ _ rfl, this]
    simp
/-- it becomes a code -/
theorem r_drop {v : Nat} {s0 s : sT} {b : Nat → Nat} {n tk o B d : Nat} {P : pT} {C W : List Nat} {Q : sT → Prop} (R : RC s0 s b n tk P C (W ++ [v]) o B d) (hB : B ≤ W.length) (h : ∀ s', RC s0 s' b n tk P (C ++ [v]) W o B d → Q s') : c12_qDrops Q s := by
  have hle := RC_le R
  rw [List.length_append, List.length_singleton] at hle
  refine e_c12_qDrops (fun u hu => ?_)
  obtain ⟨R1, e1, e2⟩ := r_unwait R hB hu
  rw [e1, nI_clamp (by omega), e2]
  exact ⟨vp_in_nI (by omega) (by decide), r_code R1 h⟩
theorem r_opened {s0 s w : sT} {b : Nat → Nat} {n tk o o' B d : Nat} {P : pT} {C W : List Nat} (R : RC s0 s b n tk P C W o B d) (ho : o' ≤ 6) (hw : w = wI s 162 104 (nI o')) : RC s0 w b n tk P C W o' B d := by
  obtain ⟨r1, r2, r3, r4, ⟨r5, r6⟩, ⟨r7, r8⟩, r9, r10, r11, r12, r13, r14, r15⟩ := R
  have F : Fr (fun a j => Nat.beq a 162 && Nat.beq j 104) s w := by rw [hw]; exact fr_wI fr_rf rfl
  refine ⟨fr_tr r1 (fr_mo F fun a j q => ?_), ⟨TR_fr F rfl (fun _ => rfl) r2.1, by rw [F.1 _ _ rfl]; exact r2.2⟩, RL_z r3 F ⟨rfl, rfl, rfl⟩, IC_fr F (fun a j q => ?_) r4, ⟨by rw [F.1 _ _ rfl]; exact r5, fun k hk => by rw [F.1 _ _ rfl]; exact r6 k hk⟩, ⟨by rw [F.1 _ _ rfl]; exact r7, fun k hk => by rw [F.1 _ _ rfl]; exact r8 k hk⟩, by rw [hw, rI_wI, if_pos ⟨rfl, rfl⟩], by rw [F.1 _ _ rfl]; exact r10, by rw [F.1 _ _ rfl]; exact r11, r12, ho, r14, r15⟩
  · unfold XPR
    simp only [Bool.or_eq_true, Bool.and_eq_true, Nat.beq_eq] at *
    omega
  · unfold fIC at q
    rw [Bool.eq_false_iff]
    intro y
    simp only [Bool.or_eq_true, Bool.and_eq_true, Nat.beq_eq, Nat.ble_eq] at *
    omega
theorem r_base {s0 s w : sT} {b : Nat → Nat} {n tk o B B' d : Nat} {P : pT} {C W : List Nat} (R : RC s0 s b n tk P C W o B d) (hB : B' ≤ W.length) (hw : w = wI s 162 105 (nI B')) : RC s0 w b n tk P C W o B' d := by
  obtain ⟨r1, r2, r3, r4, ⟨r5, r6⟩, ⟨r7, r8⟩, r9, r10, r11, r12, r13, r14, r15⟩ := R
  have F : Fr (fun a j => Nat.beq a 162 && Nat.beq j 105) s w := by rw [hw]; exact fr_wI fr_rf rfl
  refine ⟨fr_tr r1 (fr_mo F fun a j q => ?_), ⟨TR_fr F rfl (fun _ => rfl) r2.1, by rw [F.1 _ _ rfl]; exact r2.2⟩, RL_z r3 F ⟨rfl, rfl, rfl⟩, IC_fr F (fun a j q => ?_) r4, ⟨by rw [F.1 _ _ rfl]; exact r5, fun k hk => by rw [F.1 _ _ rfl]; exact r6 k hk⟩, ⟨by rw [F.1 _ _ rfl]; exact r7, fun k hk => by rw [F.1 _ _ rfl]; exact r8 k hk⟩, by rw [F.1 _ _ rfl]; exact r9, by rw [hw, rI_wI, if_pos ⟨rfl, rfl⟩], by rw [F.1 _ _ rfl]; exact r11, r12, r13, hB, r15⟩
  · unfold XPR
    simp only [Bool.or_eq_true, Bool.and_eq_true, Nat.beq_eq] at *
    omega
  · unfold fIC at q
    rw [Bool.eq_false_iff]
    intro y
    simp only [Bool.or_eq_true, Bool.and_eq_true, Nat.beq_eq, Nat.ble_eq] at *
    omega
/-- what opens -/
theorem r_opens {v : Nat} {s0 s : sT} {b : Nat → Nat} {n tk o B d : Nat} {P : pT} {C W : List Nat} {Q : sT → Prop} (hv : v < 100) (R : RC s0 s b n tk P C W o B (d + 1)) (h1 : o < 6 → ∀ s', RC s0 s' b n tk P C (W ++ [v]) (o + 1) B d → rI s' 162 2 = rI s 162 2 → Q s') (h0 : o = 6 → ∀ s', Fr XPR s0 s' → RY s' 4 P.1 → Q s') : c12_qOpens (nI v) (nI P.1) Q s := by
  have hle := RC_le R
  have r5 := R.2.2.1.1
  have r9 := R.2.2.2.2.2.2.1
  have r13 := R.2.2.2.2.2.2.2.2.2.2.1
  refine e_c12_qOpens (br_t r5 ?_)
  rw [r9, show (6 : Int32) = nI 6 from rfl, nI_eq (by omega) (by decide)]
  refine br_c (fun q => r_fail (f := 4) r5 (by decide) (fun s' F X => h0 q s' (fr_tr R.1 (fr_mo F fun a j q => xpr_l q)) (RY_of R F X))) (fun q u hu => ?_)
  rw [nI_1] at hu
  have R1 := r_opened (o' := o + 1) R (by omega) hu
  refine ⟨by rw [R1.2.2.2.2.2.1.1]; exact vp_in_nI (by omega) (by decide), fun x hx y hy => h1 (by omega) y (r_wait hv R1 hx hy) ?_⟩
  rw [hy, rI_wI, if_neg (by omega), hx, rI_wI, if_neg (by omega), hu, rI_wI, if_neg (by omega)]
/-- what waits last -/
def lst (W : List Nat) (v : Nat) : Prop := ∃ W', W = W' ++ [v]
theorem r_isOn {v : Nat} {s0 s : sT} {b : Nat → Nat} {n tk o B d : Nat} {P : pT} {C W : List Nat} {Q : Int32 → sT → Prop} (hv : v < 100) (R : RC s0 s b n tk P C W o B d) (h1 : lst W v → Q 1 s) (h0 : ¬ lst W v → Q 0 s) : c12_qIsOn (nI v) Q s := by
  have hle := RC_le R
  obtain ⟨r7, r8⟩ := R.2.2.2.2.2.1
  refine e_c12_qIsOn ?_
  rw [r7, show (0 : Int32) = nI 0 from rfl, nI_ltI (by decide) (by omega)]
  refine br_c (fun q => ?_) (fun q => h0 ?_)
  · have e : (nI W.length - (1 : Int32)) = nI (W.length - 1) := by rw [show (1 : Int32) = nI 1 from rfl, pk_sub (by omega)]
    obtain ⟨g1, g2⟩ := r8 (W.length - 1) (by omega)
    rw [e, nI_clamp (by omega), g1, nI_eq (by omega) (by omega)]
    have hl : W = W.take (W.length - 1) ++ [W[W.length - 1]] := by
      have hne : W ≠ [] := fun y => by rw [y] at q; exact absurd q (by decide)
      have := (List.dropLast_concat_getLast hne).symm
      rw [List.dropLast_eq_take, List.getLast_eq_getElem] at this
      exact this
    refine ⟨vp_in_nI (by omega) (by decide), br_c (fun y => h1 ⟨_, by rw [← y]; exact hl⟩) (fun y => h0 ?_)⟩
    rintro ⟨W', e'⟩
    refine y ?_
    subst e'
    simp
  · rintro ⟨W', e'⟩
    rw [e', List.length_append, List.length_singleton] at q
    omega
theorem lst_ap {W : List Nat} {v x : Nat} : lst (W ++ [x]) v ↔ x = v := by
  refine ⟨?_, fun h => ⟨W, by rw [h]⟩⟩
  rintro ⟨W', e⟩
  have := congrArg List.getLast? e
  simp at this
  exact this
