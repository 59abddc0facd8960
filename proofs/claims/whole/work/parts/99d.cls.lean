-- a sum, read by the class
def cWs : List (Nat × List Nat) := [(1000001, [102, 105, 110, 101, 115, 116]), (1000002, [109, 111, 115, 116]), (1000003, [98, 97, 107, 101, 115]), (1000004, [109, 105, 99, 101]), (1000005, [112, 101, 114, 115, 111, 110]), (1000007, [100, 117, 101]), (1000008, [111, 102]), (1000009, [104, 97, 118, 101]), (1000010, [98, 121]), (1000011, [99, 111, 115, 116, 115]), (1000012, [109, 105, 110]), (1000013, [109, 97, 120]), (1000014, [115, 116, 111, 99, 107]), (1000015, [102, 105, 116, 115]), (1000016, [110, 117, 109, 98, 101, 114]), (1000017, [104, 117, 110, 103, 101, 114]), (1000018, [116, 111, 112]), (1000019, [98, 111, 116, 116, 111, 109]), (1000020, [119, 97, 121, 115]), (1000021, [104, 97, 100]), (1000022, [100, 97, 121]), (1000023, [115, 105, 122, 101]), (1000024, [112, 108, 97, 99, 101]), (1000025, [108, 105, 107, 101, 115]), (1000026, [110, 111, 116]), (1000027, [97, 108, 108]), (1000028, [97, 110, 100]), (1000029, [111, 114]), (1000030, [102, 105, 114, 115, 116]), (1000031, [108, 97, 115, 116]), (1000032, [111, 102, 116, 101, 110]), (1000033, [116, 111, 116, 97, 108]), (1000034, [109, 111, 115, 116]), (1000035, [108, 101, 97, 115, 116])]
theorem cWs_all : ∀ q, q ∈ cWs → snB q.1 = true ∧ strB q.1 = q.2.map nI ∧ q.2.length < 1600 ∧ q.2.all (fun c => Nat.blt c 256) = true := by decide +kernel
def alQ (c : Nat) : Bool := Nat.beq c 42 || ((Nat.ble 44 c && Nat.ble c 49) || (Nat.beq c 60 || Nat.beq c 61))
def alT (wh : Nat) : Nat → Bool := if wh = 0 then alC else if wh = 1 then alK else alQ
/-- a row of codes leaves one more on the pile -/
def typd (wh h : Nat) (z : Bool) (Cp : List Nat) : Prop := ∀ st : List Bool, st.length + h ≤ 60 → tyL (alT wh) Cp st = some (z :: st)
theorem tyL_ap {al : Nat → Bool} : ∀ (A B : List Nat) (st : List Bool), tyL al (A ++ B) st = (tyL al A st).bind (tyL al B)
  | [], B, st => rfl
  | c :: A, B, st => by
    show (ty1 al c st).bind (tyL al (A ++ B)) = ((ty1 al c st).bind (tyL al A)).bind (tyL al B)
    cases ty1 al c st with
    | none => rfl
    | some st2 => exact tyL_ap A B st2
theorem tyL_1 {al : Nat → Bool} {c : Nat} {st : List Bool} : tyL al [c] st = ty1 al c st := by
  show (ty1 al c st).bind (tyL al []) = ty1 al c st
  cases ty1 al c st <;> rfl
theorem typd_le {wh h h' : Nat} {z : Bool} {Cp : List Nat} (T : typd wh h z Cp) (hh : h ≤ h') : typd wh h' z Cp := fun st e => T st (by omega)
theorem typd_2 {wh h c : Nat} {y z : Bool} {A B : List Nat} (T1 : typd wh (h + 1) y A) (T2 : typd wh h y B) (hc : ∀ st, ty1 (alT wh) c (y :: y :: st) = some (z :: st)) : typd wh (h + 1) z (A ++ (B ++ [c])) := fun st e => by
  rw [tyL_ap, T1 st (by omega)]
  show tyL (alT wh) (B ++ [c]) (y :: st) = _
  rw [tyL_ap, T2 (y :: st) (by rw [List.length_cons]; omega)]
  show tyL (alT wh) [c] (y :: y :: st) = _
  rw [tyL_1, hc]
theorem typd_1 {wh h c : Nat} {y z : Bool} {A : List Nat} (T1 : typd wh h y A) (hc : ∀ st, ty1 (alT wh) c (y :: st) = some (z :: st)) : typd wh h z (A ++ [c]) := fun st e => by
  rw [tyL_ap, T1 st e]
  show tyL (alT wh) [c] (y :: st) = _
  rw [tyL_1, hc]
def XCC (t a j : Nat) : Bool := (Nat.beq a 4 && (Nat.ble 1 j && Nat.ble j 5)) || ((Nat.beq a t && Nat.beq j 2) || Nat.beq a (t + 1))
theorem xcc_45 {t a j : Nat} (h : X45 a j = true) : XCC t a j = true := by
  unfold X45 at h
  unfold XCC
  rw [h]
  rfl
theorem xcc_4 {t a j : Nat} (h : X4 a j = true) : XCC t a j = true := xcc_45 (x45_4 h)
/-- the tape, and no fault -/
def TCf (s : sT) (b : Nat → Nat) (n : Nat) : Prop := TC s b n ∧ rI s 4 4 = 0 ∧ rI s 4 5 = (-1 : Int32)
/-- tape, place, the formula that is written -/
def CCx (s0 s : sT) (b : Nat → Nat) (n t wh : Nat) (P : pT) (C : List Nat) (d : Nat) : Prop := Fr (XCC t) s0 s ∧ TCf s b n ∧ CS s b n P ∧ s.2.2 = some t ∧ rI s 5 2 = nI wh ∧ rI s t 2 = nI C.length ∧ (∀ k (h : k < C.length), rI s (t + 1) k = nI (trc C[k])) ∧ C.length + d ≤ P.1 ∧ (t = 12 ∨ t = 15 ∨ t = 157) ∧ wh ≤ 2
/-- a fault of the class -/
def CFx (s0 s : sT) (t f pl : Nat) : Prop := Fr (XCC t) s0 s ∧ rI s 4 4 = nI f ∧ rI s 4 5 = nI pl ∧ 1 ≤ f ∧ f ≤ 5
theorem CCx_4 {X : Nat → Nat → Bool} {s0 s s' : sT} {b : Nat → Nat} {n t wh d d' : Nat} {P P' : pT} {C : List Nat} (R : CCx s0 s b n t wh P C d) (F : Fr X s s') (hX : ∀ a j, X a j = true → X4 a j = true) (S : CS s' b n P') (hd : C.length + d' ≤ P'.1) : CCx s0 s' b n t wh P' C d' := by
  obtain ⟨r1, r2, r3, r4, r5, r6, r7, r8, r9, r10⟩ := R
  have F4 : Fr X4 s s' := fr_mo F hX
  have F' : Fr X45 s s' := fr_mo F4 fun a j q => x45_4 q
  have g : ∀ a j, a ≠ 4 → rI s' a j = rI s a j := fun a j q => F'.1 _ _ (by
    unfold X45
    rw [show Nat.beq a 4 = false from Bool.eq_false_iff.2 (fun y => q (Nat.beq_eq.mp y))]
    rfl)
  exact ⟨fr_tr r1 (fr_mo F' fun a j q => xcc_45 q), ⟨⟨r2.1.1, by rw [g _ _ (by decide)]; exact r2.1.2.1, fun k hk => by rw [g _ _ (by decide)]; exact r2.1.2.2 k hk⟩, by rw [F4.1 _ _ rfl]; exact r2.2.1, by rw [F4.1 _ _ rfl]; exact r2.2.2⟩, S, by rw [F'.2.2]; exact r4, by rw [g _ _ (by decide)]; exact r5, by rw [g _ _ (by omega)]; exact r6, fun k hk => by rw [g _ _ (by omega)]; exact r7 k hk, hd, r9, r10⟩
theorem c_wd {t0 : Nat} {l : List Nat} {s0 s : sT} {b : Nat → Nat} {n t wh d : Nat} {P : pT} {C : List Nat} {Q : Int32 → sT → Prop} (h : (t0, l) ∈ cWs) (R : CCx s0 s b n t wh P C d) (h1 : tok b n P = tWd l → Q 1 s) (h0 : tok b n P ≠ tWd l → Q 0 s) : c8_isWord t0 Q s := by
  obtain ⟨a1, a2, a3, a4⟩ := cWs_all _ h
  exact c_word ⟨a1, a2, a3⟩ (fun k hk => by
    have := List.all_eq_true.1 a4 _ (List.getElem_mem hk)
    rw [Nat.blt_eq] at this
    exact this) R.2.1.1 R.2.2.1 h1 h0
theorem c_sg {c : Nat} {s0 s : sT} {b : Nat → Nat} {n t wh d : Nat} {P : pT} {C : List Nat} {Q : Int32 → sT → Prop} (hc : c < 256) (R : CCx s0 s b n t wh P C d) (h1 : tok b n P = tSg c → Q 1 s) (h0 : tok b n P ≠ tSg c → Q 0 s) : c8_isSign (nI c) Q s := c_sign hc R.2.1.1 R.2.2.1 h1 h0
theorem c_advC {s0 s : sT} {b : Nat → Nat} {n t wh d : Nat} {P : pT} {C : List Nat} {Q : sT → Prop} (R : CCx s0 s b n t wh P C d) (hP : P.1 < n) (hs : tok b n P ≠ tStk) (h : ∀ s', CCx s0 s' b n t wh (adv b n P) C (d + 1) → Q s') : c8_advance Q s :=
  w_adv R.2.1.1 R.2.2.1 hP hs (fun s' F S => h s' (CCx_4 R F (fun a j q => q) S (by
    have := R.2.2.2.2.2.2.2.1
    have := adv_gt (b := b) (n := n) (P := P)
    omega)))
theorem tk_lt {b : Nat → Nat} {n : Nat} {P : pT} {T : Tok} (h : tok b n P = T) (h0 : T ≠ tFin) : P.1 < n := by
  rcases Nat.lt_or_ge P.1 n with q | q
  · exact q
  · exact absurd (h.symm.trans (tok_fin.2 q)) h0
theorem c_advW {l : List Nat} {s0 s : sT} {b : Nat → Nat} {n t wh d : Nat} {P : pT} {C : List Nat} {Q : sT → Prop} (R : CCx s0 s b n t wh P C d) (hT : tok b n P = tWd l) (h : ∀ s', CCx s0 s' b n t wh (adv b n P) C (d + 1) → Q s') : c8_advance Q s :=
  c_advC R (tk_lt hT (fun y => absurd (Prod.mk.inj y).1 (by decide))) (fun y => absurd (Prod.mk.inj (hT.symm.trans y)).1 (by decide)) h
theorem c_advS {c : Nat} {s0 s : sT} {b : Nat → Nat} {n t wh d : Nat} {P : pT} {C : List Nat} {Q : sT → Prop} (R : CCx s0 s b n t wh P C d) (hT : tok b n P = tSg c) (h : ∀ s', CCx s0 s' b n t wh (adv b n P) C (d + 1) → Q s') : c8_advance Q s :=
  c_advC R (tk_lt hT (fun y => absurd (Prod.mk.inj y).1 (by decide))) (fun y => absurd (Prod.mk.inj (hT.symm.trans y)).1 (by decide)) h
theorem c_failC {f : Nat} {s0 s : sT} {b : Nat → Nat} {n t wh d : Nat} {P : pT} {C : List Nat} {Q : Int32 → sT → Prop} (hf : 1 ≤ f ∧ f ≤ 5) (R : CCx s0 s b n t wh P C d) (h : ∀ s', CFx s0 s' t f P.1 → Q 0 s') : c8_fail (nI f) Q s :=
  c_fail R.2.2.1 (fun s' F e1 e2 => h s' ⟨fr_tr R.1 (fr_mo F fun a j q => xcc_45 q), e1, e2, hf.1, hf.2⟩)
theorem c_tkS {c : Nat} {s0 s : sT} {b : Nat → Nat} {n t wh d : Nat} {P : pT} {C : List Nat} {Q : Int32 → sT → Prop} (hc : c < 256) (R : CCx s0 s b n t wh P C d) (h1 : tok b n P = tSg c → ∀ s', CCx s0 s' b n t wh (adv b n P) C (d + 1) → Q 1 s') (h0 : tok b n P ≠ tSg c → ∀ s', CFx s0 s' t 1 P.1 → Q 0 s') : c8_takeSign (nI c) Q s :=
  c_takeSign hc R.2.1.1 R.2.2.1 (fun q s' F S => h1 q s' (CCx_4 R F (fun a j q => q) S (by
    have := R.2.2.2.2.2.2.2.1
    have := adv_gt (b := b) (n := n) (P := P)
    omega))) (fun q s' F e1 e2 => h0 q s' ⟨fr_tr R.1 (fr_mo F fun a j q => xcc_45 q), e1, e2, by decide, by decide⟩)
theorem c_put {c v k : Nat} {s0 s : sT} {b : Nat → Nat} {n t wh d : Nat} {P : pT} {C : List Nat} {Q : Int32 → sT → Prop} (R : CCx s0 s b n t wh P C (d + 1)) (e : trc v = k * 16 + c) (h : ∀ s', CCx s0 s' b n t wh P (C ++ [v]) d → Q 1 s') : c6_putWith (nI c) (nI k) Q s := by
  obtain ⟨r1, r2, r3, r4, r5, r6, r7, r8, r9, r10⟩ := R
  have hn := r2.1.1
  have hPn := r3.1
  refine ⟨(fun q => absurd (r4.symm.trans q) (fun y => by cases y)), fun q hq => ⟨t, r4, by rcases r9 with rfl | rfl | rfl <;> decide, ?_⟩⟩
  refine e_c2_add (br_t (by rw [r6]; exact nI_lt (b := 1600) (by omega) (by decide)) ⟨by rw [r6]; exact vp_in_nI (by omega) (by decide), fun u hu w hw => ?_⟩)
  rw [r6, nI_clamp (by omega), show (16 : Int32) = nI 16 from rfl, pk_mul, nI_add, ← e] at hu
  have u1 : rI u t 2 = nI C.length := by rw [hu, rI_wI, if_neg (by omega)]; exact r6
  rw [u1, nI_1] at hw
  have F : Fr (fun a j => (Nat.beq a t && Nat.beq j 2) || Nat.beq a (t + 1)) s w := by
    rw [hw, hu]
    refine fr_wI (fr_wI fr_rf ?_) ?_
    · show ((Nat.beq (t + 1) t && Nat.beq C.length 2) || Nat.beq (t + 1) (t + 1)) = true
      rw [show Nat.beq (t + 1) (t + 1) = true from Nat.beq_eq.mpr rfl, Bool.or_true]
    · show ((Nat.beq t t && Nat.beq 2 2) || Nat.beq t (t + 1)) = true
      rw [show Nat.beq t t = true from Nat.beq_eq.mpr rfl]
      rfl
  have hX : ∀ a j, a ≠ t → a ≠ t + 1 → rI w a j = rI s a j := fun a j q1 q2 => F.1 _ _ (by
    show ((Nat.beq a t && Nat.beq j 2) || Nat.beq a (t + 1)) = false
    rw [show Nat.beq a t = false from Bool.eq_false_iff.2 (fun y => q1 (Nat.beq_eq.mp y)), show Nat.beq a (t + 1) = false from Bool.eq_false_iff.2 (fun y => q2 (Nat.beq_eq.mp y))]
    rfl)
  refine h w ⟨fr_tr r1 (fr_mo F fun a j q => ?_), ⟨⟨hn, by rw [hX _ _ (by omega) (by omega)]; exact r2.1.2.1, fun k hk => by rw [hX _ _ (by omega) (by omega)]; exact r2.1.2.2 k hk⟩, by rw [hX _ _ (by omega) (by omega)]; exact r2.2.1, by rw [hX _ _ (by omega) (by omega)]; exact r2.2.2⟩, ?_, by rw [F.2.2]; exact r4, by rw [hX _ _ (by omega) (by omega)]; exact r5, ?_, fun j hj => ?_, by rw [List.length_append, List.length_singleton]; omega, r9, r10⟩
  · unfold XCC
    have q : ((Nat.beq a t && Nat.beq j 2) || Nat.beq a (t + 1)) = true := q
    rw [q, Bool.or_true]
  · refine CS_fr F (fun j j1 j2 => ?_) r3
    show ((Nat.beq 4 t && Nat.beq j 2) || Nat.beq 4 (t + 1)) = false
    rcases r9 with rfl | rfl | rfl <;> rfl
  · rw [hw, rI_wI, if_pos ⟨rfl, rfl⟩, List.length_append, List.length_singleton]
  · rw [List.length_append, List.length_singleton] at hj
    rw [hw, rI_wI, if_neg (by omega), hu, rI_wI]
    by_cases y : j = C.length
    · subst y
      rw [if_pos ⟨rfl, rfl⟩, List.getElem_append_right (Nat.le_refl _)]
      simp
    · rw [if_neg (by omega), List.getElem_append_left (by omega)]
      exact r7 j (by omega)
theorem c_put1 {c v : Nat} {s0 s : sT} {b : Nat → Nat} {n t wh d : Nat} {P : pT} {C : List Nat} {Q : Int32 → sT → Prop} (R : CCx s0 s b n t wh P C (d + 1)) (e : trc v = c) (h : ∀ s', CCx s0 s' b n t wh P (C ++ [v]) d → Q 1 s') : c6_put (nI c) Q s := by
  have q := c_put (c := c) (v := v) (Q := Q) (k := 0) R (by rw [e]; omega) h
  unfold c6_putWith at q
  unfold c6_put
  exact q
theorem c_opens {o : Nat} {s0 s : sT} {b : Nat → Nat} {n t wh d : Nat} {P : pT} {C : List Nat} {Q : Int32 → sT → Prop} (ho : o ≤ 6) (R : CCx s0 s b n t wh P C d) (hP : P.1 < n) (hs : tok b n P ≠ tStk) (h1 : o < 6 → ∀ s', CCx s0 s' b n t wh (adv b n P) C (d + 1) → Q 1 s') (h0 : o = 6 → ∀ s', CFx s0 s' t 4 P.1 → Q 0 s') : c6_opens (nI o) Q s := by
  refine e_c6_opens ?_
  rw [show (6 : Int32) = nI 6 from rfl, nI_ltI (by omega) (by decide)]
  exact br_c (fun q => c_advC R hP hs (fun s' R' => h1 q s' R')) (fun q => c_failC (f := 4) (by decide) R (fun s' F => ⟨Or.inl rfl, h0 (by omega) s' F⟩))
-- what the reference does meanwhile
def simP (b : Nat → Nat) (n tk : Nat) (P P' : pT) (o : Nat) (Cp : List Nat) : Prop := ∀ (s0 s : sT) (C W : List Nat) (B d : Nat) (v1 : Int32) (Q : sT → Prop), RC s0 s b n tk P C W o B (d + 1) → (∀ s', RC s0 s' b n tk P' (C ++ Cp) W o B (d + 1) → EEq v1 Q s') → SWq v1 Q s
def simX (p : Nat → Prop) (b : Nat → Nat) (n tk : Nat) (P : pT) (o f pl : Nat) : Prop := ∀ (s0 s : sT) (C W : List Nat) (B d : Nat) (v1 : Int32) (Q : sT → Prop), RC s0 s b n tk P C W o B (d + 1) → (∀ x, lst W x → p x) → (∀ s', Fr XPR s0 s' → RY s' f pl → c12_qSums_15 v1 (0 : Int32) Q s') → SWq v1 Q s
def pT1 (_ : Nat) : Prop := True
def pT2 (x : Nat) : Prop := x ≠ 3 ∧ x ≠ 4 ∧ x < 60
def pT3 (x : Nat) : Prop := ¬ (1 ≤ x ∧ x ≤ 4) ∧ x < 60
def simM (b : Nat → Nat) (n tk : Nat) (P P' : pT) (o : Nat) (Cp : List Nat) : Prop := ∀ (s0 s : sT) (C W : List Nat) (B d : Nat) (v1 : Int32) (Q : sT → Prop), RC s0 s b n tk P C W o B (d + 1) → (∀ x, lst W x → pT2 x) → (∀ s' C' ρ, RC s0 s' b n tk P' C' (W ++ ρ.reverse) o B (d + 1) → C' ++ ρ = C ++ Cp → (∀ x, x ∈ ρ → x = 3 ∨ x = 4) → c12_qGoesOn (FFq v1 Q) s') → SWq v1 Q s
def simS (b : Nat → Nat) (n tk : Nat) (P P' : pT) (o : Nat) (Cp : List Nat) : Prop := ∀ (s0 s : sT) (C W : List Nat) (B d : Nat) (v1 : Int32) (Q : sT → Prop), RC s0 s b n tk P C W o B (d + 1) → (∀ x, lst W x → pT3 x) → (∀ s' C' ρ, RC s0 s' b n tk P' C' (W ++ ρ.reverse) o B (d + 1) → C' ++ ρ = C ++ Cp → (∀ x, x ∈ ρ → 1 ≤ x ∧ x ≤ 4) → c12_qGoesOn (FFq v1 Q) s') → SWq v1 Q s
theorem RC_B {s0 s : sT} {b : Nat → Nat} {n tk o B d : Nat} {P : pT} {C W : List Nat} (R : RC s0 s b n tk P C W o B d) : B ≤ W.length := R.2.2.2.2.2.2.2.2.2.2.2.1
/-- what a reader of the class may answer -/
def rdQ (z : Bool) (h : Nat) (sim : pT → List Nat → Prop) (nx : Tok → Prop) (sx : Nat → Nat → Prop) (s0 : sT) (b : Nat → Nat) (n t wh : Nat) (P : pT) (C : List Nat) (d : Nat) (Q : Int32 → sT → Prop) : Prop :=
  (∀ s' P' Cp, CCx s0 s' b n t wh P' (C ++ Cp) d → P.1 < P'.1 → sim P' Cp → nx (tok b n P') → typd wh h z Cp → Q 1 s') ∧ ∀ s' f pl, CFx s0 s' t f pl → sx f pl → Q 0 s'
def nxA (_ : Tok) : Prop := True
def nxM (T : Tok) : Prop := T ≠ tSg 42 ∧ T ≠ tSg 47
theorem lst_p {p : Nat → Prop} {W : List Nat} {v : Nat} (h : p v) : ∀ x, lst (W ++ [v]) x → p x := fun x hx => by
  rw [lst_ap] at hx
  rw [← hx]
  exact h
