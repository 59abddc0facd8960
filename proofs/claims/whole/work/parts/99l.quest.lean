-- a question, from its start to its end
def FO (X : Nat → Nat → Bool) (s t : sT) : Prop := (∀ a j, X a j = false → rI t a j = rI s a j) ∧ ∀ a j, X a j = false → rJ t a j = rJ s a j
theorem FO_of {X : Nat → Nat → Bool} {s t : sT} (h : Fr X s t) : FO X s t := ⟨h.1, h.2.1⟩
theorem FO_tr {X : Nat → Nat → Bool} {s t u : sT} (h : FO X s t) (k : FO X t u) : FO X s u := ⟨fun a j q => (k.1 a j q).trans (h.1 a j q), fun a j q => (k.2 a j q).trans (h.2 a j q)⟩
theorem FO_mo {X Y : Nat → Nat → Bool} {s t : sT} (h : FO X s t) (hx : ∀ a j, X a j = true → Y a j = true) : FO Y s t := by
  have q : ∀ a j, Y a j = false → X a j = false := fun a j e => by
    cases hb : X a j with
    | false => rfl
    | true => rw [hx a j hb] at e; cases e
  exact ⟨fun a j e => h.1 a j (q a j e), fun a j e => h.2 a j (q a j e)⟩
theorem FO_wO {X : Nat → Nat → Bool} {s : sT} {o : Option Nat} : FO X s (wO s o) := ⟨fun _ _ _ => rfl, fun _ _ _ => rfl⟩
theorem FO_wI {X : Nat → Nat → Bool} {s t u : sT} {a j : Nat} {v : Int32} (h : FO X s t) (hx : X a j = true) (e : u = wI t a j v) : FO X s u := FO_tr h (FO_of (by rw [e]; exact fr_wI fr_rf hx))
theorem FO_fr {X : Nat → Nat → Bool} {s t : sT} (h : FO X s t) : Fr X s (wO t s.2.2) := ⟨h.1, h.2, rfl⟩
theorem Inv_wO {t : sT} {o : Option Nat} (h : Inv (wO t o)) : Inv t := h
def kwd (K : Nat) : List Nat := if K = 0 then [102, 105, 114, 115, 116] else if K = 1 then [108, 97, 115, 116] else if K = 2 then [111, 102, 116, 101, 110] else if K = 3 then [116, 111, 116, 97, 108] else if K = 4 then [109, 111, 115, 116] else [108, 101, 97, 115, 116]
/-- what the class writes while it reads -/
def XCa (a j : Nat) : Bool := Nat.beq a 4 || (Nat.beq a 5 || (Nat.beq a 157 || Nat.beq a 158))
theorem xca_45 {a j : Nat} (h : X45 a j = true) : XCa a j = true := by
  unfold X45 at h
  unfold XCa
  simp only [Bool.or_eq_true, Bool.and_eq_true, Nat.beq_eq, Nat.ble_eq] at *
  omega
theorem xca_c {a j : Nat} (h : XCC 157 a j = true) : XCa a j = true := by
  unfold XCC at h
  unfold XCa
  simp only [Bool.or_eq_true, Bool.and_eq_true, Nat.beq_eq, Nat.ble_eq] at *
  omega
def EQq (Q : Int64 → sT → Prop) (y : Int32) : sT → Prop := fun u15 => ((rI u15 162 5) = 0 → c12_look (fun y16 u17 => (y16 = (-1 : Int32) → c12_ask_133 y Q u17) ∧ (¬ y16 = (-1 : Int32) → c12_fail (1 : Int32) (rI u17 162 2) (fun u18 => c12_ask_133 y Q u18) u17)) u15) ∧ (¬ (rI u15 162 5) = 0 → c12_ask_133 y Q u15)
def ASKq (Q : Int64 → sT → Prop) (y : Int32) (u : sT) : Prop := ((rI u 162 5) = 0 → (y < (3 : Int32) → c12_qTest (EQq Q y) u) ∧ (¬ y < (3 : Int32) → c12_ask_98 y Q u)) ∧ (¬ (rI u 162 5) = 0 → c12_ask_98 y Q u)
theorem lkv_fin {b : Nat → Nat} {n : Nat} {P : pT} {s : sT} (T : TR s b n) : lkv b n P = (-1 : Int32) ↔ tok b n P = tFin := by
  have hn := T.1
  unfold lkv
  rw [tok_fin]
  by_cases q : P.1 < n
  · have hb := T.2.2 P.1 (by omega)
    rw [if_pos q]
    exact ⟨fun y => absurd y (nI_nm (by omega)), fun y => by omega⟩
  · rw [if_neg q]
    exact ⟨fun _ => by omega, fun _ => rfl⟩
theorem eq_fin {y : Int32} {Q : Int64 → sT → Prop} {s0 s : sT} {b : Nat → Nat} {n tk o B d : Nat} {P : pT} {C W : List Nat} (R : RC s0 s b n tk P C W o B d) (hT : tok b n P = tFin) (h : ∀ s', RC s0 s' b n tk P C W o B d → c12_ask_133 y Q s') : EQq Q y s :=
  br_t R.2.2.1.1 (r_lookC R (fun s1 R1 _ => br_t ((lkv_fin R.2.1.1).2 hT) (h s1 R1)))
theorem eq_no {y : Int32} {Q : Int64 → sT → Prop} {s0 s : sT} {b : Nat → Nat} {n tk o B d : Nat} {P : pT} {C W : List Nat} (R : RC s0 s b n tk P C W o B d) (hT : tok b n P ≠ tFin) (h : ∀ s', Fr XPR s0 s' → RX s' 1 P.1 → c12_ask_133 y Q s') : EQq Q y s := by
  refine br_t R.2.2.1.1 (r_lookC R (fun s1 R1 N1 => br_f (fun q => hT ((lkv_fin R.2.1.1).1 q)) ?_))
  rw [N1.2.1]
  exact r_fail (f := 1) R1.2.2.1.1 (by decide) (fun s2 F2 X2 => h s2 (fr_tr R1.1 (fr_mo F2 fun a j q => xpr_l q)) X2)
theorem eq_bad {y : Int32} {Q : Int64 → sT → Prop} {s : sT} {f pl : Nat} (X : RX s f pl) (h : c12_ask_133 y Q s) : EQq Q y s := br_f (RX_n0 X) h
theorem ask_bad {y : Int32} {Q : Int64 → sT → Prop} {s : sT} {f pl : Nat} (X : RX s f pl) (h : c12_ask_133 y Q s) : ASKq Q y s := br_f (RX_n0 X) (e_c12_ask_98 (br_f (RX_n0 X) (br_f (RX_n0 X) h)))
theorem ask_test {K : Nat} {Q : Int64 → sT → Prop} {s : sT} (hK : K < 3) (h5 : rI s 162 5 = 0) (h : TWt (EQq Q (nI K)) s) : ASKq Q (nI K) s := br_t h5 (br_t (nI_lt (b := 3) hK (by decide)) (e_c12_qTest h))
theorem ask_sum {K : Nat} {Q : Int64 → sT → Prop} {s : sT} (hK : 3 ≤ K ∧ K < 6) (h5 : rI s 162 5 = 0) (h : c12_qSums (EQq Q (nI K)) s) : ASKq Q (nI K) s := br_t h5 (br_f (nI_nlt (b := 3) hK.1 (by omega)) (e_c12_ask_98 (br_t h5 h)))
theorem r_qKind {F : Int32 → sT → Prop} {s0 s : sT} {b : Nat → Nat} {n tk o B d : Nat} {P : pT} {C W : List Nat} (R : RC s0 s b n tk P C W o B d) (h1 : ∀ K, K < 6 → tok b n P = tWd (kwd K) → ∀ s', RC s0 s' b n tk (adv b n P) C W o B (d + 1) → F (nI K) s') (h0 : (∀ K, K < 6 → tok b n P ≠ tWd (kwd K)) → ∀ s', Fr XPR s0 s' → RX s' 1 P.1 → F 5 s') : c12_qKind F s := by
  refine e_c12_qKind ?_
  refine r_takesC (t := 213) (l := [102, 105, 114, 115, 116]) (by decide) R (fun q s1 S1 => yes1 (br_f (by decide) (h1 0 (by decide) q s1 S1))) (fun n0 s2 S2 _ => no0 ?_)
  refine r_takesC (t := 214) (l := [108, 97, 115, 116]) (by decide) S2 (fun q s1 S1 => yes1 (br_f (by decide) (h1 1 (by decide) q s1 S1))) (fun n1 s3 S3 _ => no0 ?_)
  refine r_takesC (t := 215) (l := [111, 102, 116, 101, 110]) (by decide) S3 (fun q s1 S1 => yes1 (br_f (by decide) (h1 2 (by decide) q s1 S1))) (fun n2 s4 S4 _ => no0 ?_)
  refine r_takesC (t := 216) (l := [116, 111, 116, 97, 108]) (by decide) S4 (fun q s1 S1 => yes1 (br_f (by decide) (h1 3 (by decide) q s1 S1))) (fun n3 s5 S5 _ => no0 ?_)
  refine r_takesC (t := 217) (l := [109, 111, 115, 116]) (by decide) S5 (fun q s1 S1 => yes1 (br_f (by decide) (h1 4 (by decide) q s1 S1))) (fun n4 s6 S6 _ => no0 ?_)
  refine br_t rfl (r_asksC (t := 218) (l := [108, 101, 97, 115, 116]) (by decide) S6 (fun q s1 S1 => h1 5 (by decide) q s1 S1) (fun n5 s1 F1 X1 => h0 (fun K hK => ?_) s1 F1 X1.1))
  have cs : K = 0 ∨ K = 1 ∨ K = 2 ∨ K = 3 ∨ K = 4 ∨ K = 5 := by omega
  rcases cs with rfl | rfl | rfl | rfl | rfl | rfl
  · exact n0
  · exact n1
  · exact n2
  · exact n3
  · exact n4
  · exact n5
theorem c_wdB {t0 : Nat} {l : List Nat} {s : sT} {b : Nat → Nat} {n : Nat} {P : pT} {Q : Int32 → sT → Prop} (h : (t0, l) ∈ cWs) (T : TC s b n) (S : CS s b n P) (h1 : tok b n P = tWd l → Q 1 s) (h0 : tok b n P ≠ tWd l → Q 0 s) : c8_isWord t0 Q s := by
  obtain ⟨a1, a2, a3, a4⟩ := cWs_all _ h
  exact c_word ⟨a1, a2, a3⟩ (fun k hk => by
    have := List.all_eq_true.1 a4 _ (List.getElem_mem hk)
    rw [Nat.blt_eq] at this
    exact this) T S h1 h0
theorem c_qHere {s : sT} {b : Nat → Nat} {n : Nat} {P : pT} {Q : Int32 → sT → Prop} (T : TC s b n) (S : CS s b n P) (h1 : ∀ K, K < 6 → tok b n P = tWd (kwd K) → Q (nI (K + 1)) s) (h0 : (∀ K, K < 6 → tok b n P ≠ tWd (kwd K)) → Q 0 s) : c6_questionHere Q s := by
  refine e_c6_questionHere ?_
  refine c_wdB (t0 := 1000030) (l := [102, 105, 114, 115, 116]) (by decide) T S (fun q => yes1 (h1 0 (by decide) q)) (fun n0 => no0 ?_)
  refine c_wdB (t0 := 1000031) (l := [108, 97, 115, 116]) (by decide) T S (fun q => yes1 (h1 1 (by decide) q)) (fun n1 => no0 ?_)
  refine c_wdB (t0 := 1000032) (l := [111, 102, 116, 101, 110]) (by decide) T S (fun q => yes1 (h1 2 (by decide) q)) (fun n2 => no0 ?_)
  refine c_wdB (t0 := 1000033) (l := [116, 111, 116, 97, 108]) (by decide) T S (fun q => yes1 (h1 3 (by decide) q)) (fun n3 => no0 ?_)
  refine c_wdB (t0 := 1000034) (l := [109, 111, 115, 116]) (by decide) T S (fun q => yes1 (h1 4 (by decide) q)) (fun n4 => no0 ?_)
  refine c_wdB (t0 := 1000035) (l := [108, 101, 97, 115, 116]) (by decide) T S (fun q => yes1 (h1 5 (by decide) q)) (fun n5 => no0 ?_)
  refine h0 (fun K hK => ?_)
  have cs : K = 0 ∨ K = 1 ∨ K = 2 ∨ K = 3 ∨ K = 4 ∨ K = 5 := by omega
  rcases cs with rfl | rfl | rfl | rfl | rfl | rfl
  · exact n0
  · exact n1
  · exact n2
  · exact n3
  · exact n4
  · exact n5
/-- what the reference does with a question that is none -/
def rfQ (b : Nat → Nat) (n : Nat) (P : pT) (f pl : Nat) : Prop := ∀ (s0 : sT) (Q : Int64 → sT → Prop), RC s0 s0 b n 2 P [] [] 0 0 5 → (∀ s' y, Fr XPR s0 s' → RX s' f pl → c12_ask_133 y Q s') → c12_qKind (ASKq Q) s0
/-- .. that is one -/
def roQ (b : Nat → Nat) (n : Nat) (P : pT) (K : Nat) (Cp : List Nat) : Prop := ∀ (s0 : sT) (Q : Int64 → sT → Prop), RC s0 s0 b n 2 P [] [] 0 0 5 → (∀ s' P' d, RC s0 s' b n 2 P' Cp [] 0 0 d → c12_ask_133 (nI K) Q s') → c12_qKind (ASKq Q) s0
theorem kwd_ne : ∀ K, K < 6 → ∀ K', K' < 6 → K ≠ K' → kwd K ≠ kwd K' := by decide
theorem kw_one {b : Nat → Nat} {n K K' : Nat} {P : pT} (h : tok b n P = tWd (kwd K)) (h' : tok b n P = tWd (kwd K')) (hK : K < 6) (hK' : K' < 6) : K' = K := by
  by_cases y : K' = K
  · exact y
  · exact absurd (Prod.mk.inj (h'.symm.trans h)).2 (kwd_ne K' hK' K hK y)
theorem lst_0 {p : Nat → Prop} : ∀ x, lst [] x → p x := fun _ h => absurd h lst_nil
/-- the class reads a question -/
theorem c_readQ {s : sT} {b : Nat → Nat} {n : Nat} {Q : Int32 → sT → Prop} (T : TC s b n) (h1 : ∀ s' K z Cp, K < 6 → (K < 3 → z = true) → FO XCa s s' → rI s' 4 4 = 0 → rI s' 4 5 = (-1 : Int32) → rI s' 157 2 = nI Cp.length → (∀ k (h : k < Cp.length), rI s' 158 k = nI (trc Cp[k])) → Cp.length ≤ 1600 → tyL alQ Cp [] = some [z] → roQ b n (skp b n 0, false) K Cp → Q (nI (K + 1)) s') (h0 : ∀ s' f pl, FO XCa s s' → rI s' 4 4 = nI f → rI s' 4 5 = nI pl → rfQ b n (skp b n 0, false) f pl → Q 0 s') : c6_readQuestion Q s := by
  have hn := T.1
  refine e_c6_readQuestion (w_begin T (fun s1 F1 S1 e4 e5 => ?_))
  have T1 := TC_fr F1 (fun a j q => by rcases q with rfl | rfl <;> rfl) T
  have O1 : FO XCa s s1 := FO_mo (FO_of F1) (fun a j q => xca_45 q)
  refine c_qHere T1 S1 (fun K hK hT => br_f (nI_ne0 (by omega) (by omega)) ?_) (fun hno => br_t rfl (c_fail (v := 1) S1 (fun s2 F2 f4 f5 => h0 s2 1 _ (FO_tr O1 (FO_mo (FO_of F2) (fun a j q => xca_45 q))) f4 f5 (fun s0 Q' R' h' => r_qKind R' (fun K hK hT => absurd hT (hno K hK)) (fun _ s' F' X' => ask_bad X' (h' s' _ F' X'))))))
  refine w_adv T1 S1 (tw_lt hT) (tw_stk hT) (fun s2 F2 S2 => ?_)
  have O2 : FO XCa s s2 := FO_tr O1 (FO_mo (FO_of F2) (fun a j q => xca_45 (x45_4 q)))
  have T2 := TC_fr F2 (fun a j q => by rcases q with rfl | rfl <;> rfl) T1
  have e42 : rI s2 4 4 = 0 := by rw [F2.1 _ _ rfl]; exact e4
  have e52 : rI s2 4 5 = (-1 : Int32) := by rw [F2.1 _ _ rfl]; exact e5
  -- the start of the rest
  have start : ∀ u5 u3 u4, u3 = wO s2 (some 157) → u4 = wI u3 5 2 (2 : Int32) → u5 = wI u4 157 2 (0 : Int32) → FO XCa s u5 ∧ CCx u5 u5 b n 157 2 (adv b n (skp b n 0, false)) [] 0 := fun u5 u3 u4 h3 h4 h5 => by
    have O5 : FO XCa s u5 := FO_wI (FO_wI (FO_tr O2 (by rw [h3]; exact FO_wO)) rfl h4) rfl h5
    have k5 : ∀ a j, a ≠ 5 → a ≠ 157 → rI u5 a j = rI s2 a j := fun a j q1 q2 => by rw [h5, rI_wI, if_neg (by omega), h4, rI_wI, if_neg (by omega), h3]; rfl
    refine ⟨O5, fr_rf, ⟨⟨T2.1, by rw [k5 _ _ (by decide) (by decide)]; exact T2.2.1, fun k hk => by rw [k5 _ _ (by decide) (by decide)]; exact T2.2.2 k hk⟩, by rw [k5 _ _ (by decide) (by decide)]; exact e42, by rw [k5 _ _ (by decide) (by decide)]; exact e52⟩, ?_, ?_, ?_, ?_, (fun k hk => absurd hk (Nat.not_lt_zero _)), Nat.zero_le _, Or.inr (Or.inr rfl), Nat.le_refl _⟩
    · obtain ⟨c1, c2, c3, c4⟩ := S2
      exact ⟨c1, by rw [k5 _ _ (by decide) (by decide)]; exact c2, fun q => by rw [k5 _ _ (by decide) (by decide), k5 _ _ (by decide) (by decide)]; exact c3 q, fun q => by rw [k5 _ _ (by decide) (by decide), k5 _ _ (by decide) (by decide)]; exact c4 q⟩
    · rw [h5, h4, h3]; rfl
    · rw [h5, rI_wI, if_neg (by omega), h4, rI_wI, if_pos ⟨rfl, rfl⟩]; rfl
    · rw [h5, rI_wI, if_pos ⟨rfl, rfl⟩]; rfl
  have rk : ∀ {s0 : sT} {Q' : Int64 → sT → Prop}, RC s0 s0 b n 2 (skp b n 0, false) [] [] 0 0 5 → (∀ s', RC s0 s' b n 2 (adv b n (skp b n 0, false)) [] [] 0 0 (5 + 1) → ASKq Q' (nI K) s') → c12_qKind (ASKq Q') s0 := fun R' h' => r_qKind R' (fun K' hK' hT' => by rw [kw_one hT hT' hK hK']; exact h') (fun q => absurd hT (q K hK))
  -- the end
  have fin' : ∀ (z : Bool) (u5 : sT), FO XCa s u5 → (K < 3 → z = true) → ∀ s' P' Cp, CCx u5 s' b n 157 2 P' ([] ++ Cp) 0 → tyL alQ Cp [] = some [z] → (∀ (s0 : sT) (Q' : Int64 → sT → Prop), RC s0 s0 b n 2 (skp b n 0, false) [] [] 0 0 5 → (∀ s' d, RC s0 s' b n 2 P' Cp [] 0 0 d → EQq Q' (nI K) s') → c12_qKind (ASKq Q') s0) → ((rI s' 4 1) = 0 → Q (nI (K + 1)) s') ∧ (¬ (rI s' 4 1) = 0 → c8_fail (1 : Int32) (fun y11 u12 => Q (0 : Int32) u12) s') := by
    intro z u5 O5 hz s' P' Cp R' ht hs
    have hPn := R'.2.2.1.1
    obtain ⟨k0, -, -, -⟩ := cs_kind R'.2.2.1
    have Os : FO XCa s s' := FO_tr O5 (FO_mo (FO_of R'.1) (fun a j q => xca_c q))
    have hlen : Cp.length ≤ 1600 := by
      have := R'.2.2.2.2.2.2.2.1
      rw [List.nil_append] at this
      omega
    refine br_c (fun q => h1 s' K z Cp hK hz Os R'.2.1.2.1 R'.2.1.2.2 R'.2.2.2.2.2.1 R'.2.2.2.2.2.2.1 hlen ht (fun s0 Q' RR h' => hs s0 Q' RR (fun t1 d E1 => eq_fin E1 (k0.1 q) (fun t2 E2 => h' t2 P' d E2)))) (fun q => ?_)
    exact c_failC (f := 1) (by decide) R' (fun s3 F3 => h0 s3 1 P'.1 (FO_tr O5 (FO_mo (FO_of F3.1) (fun a j q => xca_c q))) F3.2.1 F3.2.2.1 (fun s0 Q' RR h' => hs s0 Q' RR (fun t1 d E1 => eq_no E1 (fun y => q (k0.2 y)) (fun t2 F X => h' t2 _ F X))))
  have bad : ∀ (u5 : sT), FO XCa s u5 → ∀ s' f pl, CFx u5 s' 157 f pl → rfQ b n (skp b n 0, false) f pl → Q 0 s' := fun u5 O5 s' f pl F' hr => h0 s' f pl (FO_tr O5 (FO_mo (FO_of F'.1) (fun a j q => xca_c q))) F'.2.1 F'.2.2.1 hr
  rw [show (3 : Int32) = nI 3 from rfl, nI_ltI (by decide) (by omega)]
  refine br_c (fun q => e_c6_readSum (fun u3 h3 u4 h4 => e_c2_clear (fun u5 h5 => ?_))) (fun q => e_c6_readTest (fun u3 h3 u4 h4 => e_c2_clear (fun u5 h5 => ?_)))
  · obtain ⟨O5, R5⟩ := start u5 u3 u4 h3 h4 h5
    refine (go_sums 64).1.2.2 0 (by decide) (by decide) u5 _ [] 0 _ R5 ⟨fun s' P' Cp R' hP' S' M' T' => ⟨Or.inr rfl, yes1 (fin' false u5 O5 (fun y => by omega) s' P' Cp R' (T' [] (by decide)) (fun s0 Q' RR h' => rk RR (fun t1 E1 => ask_sum ⟨by omega, hK⟩ E1.2.2.1.1 (r_sums E1 (fun t2 E2 => S' s0 t2 [] [] 0 5 (nI 0) (EQq Q' (nI K)) E2 lst_0 (fun t3 D ρ E3 e3 g3 => g_end (W := []) (Nat.le_refl _) E3 g3 M' (fun t4 E4 => h' t4 _ (by rw [e3] at E4; exact E4))))))))⟩, fun s' f pl F' S' => ⟨Or.inl rfl, no0 (bad u5 O5 s' f pl F' (fun s0 Q' RR h' => rk RR (fun t1 E1 => ask_sum ⟨by omega, hK⟩ E1.2.2.1.1 (r_sums E1 (fun t2 E2 => S' s0 t2 [] [] 0 5 (nI 0) (EQq Q' (nI K)) E2 lst_0 (fun t3 F X => LP_bad F X (fun t4 F4 X4 => eq_bad X4.1 (h' t4 _ F4 X4.1))))))))⟩⟩
  · obtain ⟨O5, R5⟩ := start u5 u3 u4 h3 h4 h5
    refine (go_tests 64).2.2 0 (by decide) (by decide) u5 _ [] 0 _ R5 ⟨fun s' P' Cp R' hP' S' M' T' => ⟨Or.inr rfl, yes1 (fin' true u5 O5 (fun _ => rfl) s' P' Cp R' (T' [] (by decide)) (fun s0 Q' RR h' => rk RR (fun t1 E1 => ask_test (by omega) E1.2.2.1.1 (S' s0 t1 [] [] 0 5 (EQq Q' (nI K)) E1 lst_0 (fun t3 D ρ E3 e3 g3 => t_end E3 g3 M'.1 M'.2 (fun t4 E4 => h' t4 _ (by rw [e3] at E4; exact E4)))))))⟩, fun s' f pl F' S' => ⟨Or.inl rfl, no0 (bad u5 O5 s' f pl F' (fun s0 Q' RR h' => rk RR (fun t1 E1 => ask_test (by omega) E1.2.2.1.1 (S' s0 t1 [] [] 0 5 (EQq Q' (nI K)) E1 lst_0 (fun t3 F X => eq_bad X (h' t3 _ F X))))))⟩⟩
