-- a sum, read by the reference
def wdK (k : Nat) : List Nat := if k = 0 then [115, 105, 122, 101] else if k = 1 then [115, 116, 111, 99, 107] else if k = 2 then [100, 97, 121] else if k = 3 then [112, 108, 97, 99, 101] else if k = 4 then [104, 117, 110, 103, 101, 114] else if k = 5 then [110, 117, 109, 98, 101, 114] else if k = 6 then [116, 111, 112] else if k = 7 then [98, 111, 116, 116, 111, 109] else if k = 8 then [119, 97, 121, 115] else if k = 9 then [104, 97, 100] else if k = 10 then [115, 116, 111, 99, 107] else [102, 105, 116, 115]
theorem whC_eq {tk k : Nat} {T : Tok} (h : whC tk T = k + 1) : T = tWd (wdK k) := by
  unfold whC at h
  by_cases h0 : T = tWd [115, 105, 122, 101]
  · rw [if_pos h0] at h
    have e : k = 0 := by omega
    rw [e]
    exact h0
  rw [if_neg h0] at h
  by_cases h1 : tk < 2 ∧ T = tWd [115, 116, 111, 99, 107]
  · rw [if_pos h1] at h
    have e : k = 1 := by omega
    rw [e]
    exact h1.2
  rw [if_neg h1] at h
  by_cases h2 : T = tWd [100, 97, 121]
  · rw [if_pos h2] at h
    have e : k = 2 := by omega
    rw [e]
    exact h2
  rw [if_neg h2] at h
  by_cases h3 : T = tWd [112, 108, 97, 99, 101]
  · rw [if_pos h3] at h
    have e : k = 3 := by omega
    rw [e]
    exact h3
  rw [if_neg h3] at h
  by_cases h4 : T = tWd [104, 117, 110, 103, 101, 114]
  · rw [if_pos h4] at h
    have e : k = 4 := by omega
    rw [e]
    exact h4
  rw [if_neg h4] at h
  by_cases h5 : T = tWd [110, 117, 109, 98, 101, 114]
  · rw [if_pos h5] at h
    have e : k = 5 := by omega
    rw [e]
    exact h5
  rw [if_neg h5] at h
  by_cases h6 : T = tWd [116, 111, 112]
  · rw [if_pos h6] at h
    have e : k = 6 := by omega
    rw [e]
    exact h6
  rw [if_neg h6] at h
  by_cases h7 : T = tWd [98, 111, 116, 116, 111, 109]
  · rw [if_pos h7] at h
    have e : k = 7 := by omega
    rw [e]
    exact h7
  rw [if_neg h7] at h
  by_cases h8 : T = tWd [119, 97, 121, 115]
  · rw [if_pos h8] at h
    have e : k = 8 := by omega
    rw [e]
    exact h8
  rw [if_neg h8] at h
  by_cases h9 : T = tWd [104, 97, 100]
  · rw [if_pos h9] at h
    have e : k = 9 := by omega
    rw [e]
    exact h9
  rw [if_neg h9] at h
  by_cases h10 : T = tWd [115, 116, 111, 99, 107]
  · rw [if_pos h10] at h
    have e : k = 10 := by omega
    rw [e]
    exact h10
  rw [if_neg h10] at h
  by_cases h11 : T = tWd [102, 105, 116, 115]
  · rw [if_pos h11] at h
    have e : k = 11 := by omega
    rw [e]
    exact h11
  rw [if_neg h11] at h
  omega
theorem r_asksWord {k : Nat} {s0 s : sT} {b : Nat → Nat} {n tk o B d : Nat} {P : pT} {C W : List Nat} {Q : sT → Prop} (hk : k < 12) (hT : tok b n P = tWd (wdK k)) (R : RC s0 s b n tk P C W o B d) (h : ∀ s', RC s0 s' b n tk (adv b n P) C W o B (d + 1) → Q s') : c12_qAsksWord (nI k) Q s := by
  refine e_c12_qAsksWord ?_
  have cs : k = 0 ∨ k = 1 ∨ k = 2 ∨ k = 3 ∨ k = 4 ∨ k = 5 ∨ k = 6 ∨ k = 7 ∨ k = 8 ∨ k = 9 ∨ k = 10 ∨ k = 11 := by omega
  rcases cs with rfl | rfl | rfl | rfl | rfl | rfl | rfl | rfl | rfl | rfl | rfl | rfl
  · exact (br_t rfl (r_asksC (t := 225) (l := [115, 105, 122, 101]) (by decide) R (fun _ s1 R1 => h s1 R1) (fun q _ _ _ => absurd hT q)))
  · exact (br_f (by decide) (br_t rfl (r_asksC (t := 226) (l := [115, 116, 111, 99, 107]) (by decide) R (fun _ s1 R1 => h s1 R1) (fun q _ _ _ => absurd hT q))))
  · exact (br_f (by decide) (br_f (by decide) (br_t rfl (r_asksC (t := 227) (l := [100, 97, 121]) (by decide) R (fun _ s1 R1 => h s1 R1) (fun q _ _ _ => absurd hT q)))))
  · exact (br_f (by decide) (br_f (by decide) (br_f (by decide) (br_t rfl (r_asksC (t := 228) (l := [112, 108, 97, 99, 101]) (by decide) R (fun _ s1 R1 => h s1 R1) (fun q _ _ _ => absurd hT q))))))
  · exact (br_f (by decide) (br_f (by decide) (br_f (by decide) (br_f (by decide) (br_t rfl (r_asksC (t := 229) (l := [104, 117, 110, 103, 101, 114]) (by decide) R (fun _ s1 R1 => h s1 R1) (fun q _ _ _ => absurd hT q)))))))
  · exact (br_f (by decide) (br_f (by decide) (br_f (by decide) (br_f (by decide) (br_f (by decide) (br_t rfl (r_asksC (t := 230) (l := [110, 117, 109, 98, 101, 114]) (by decide) R (fun _ s1 R1 => h s1 R1) (fun q _ _ _ => absurd hT q))))))))
  · exact (br_f (by decide) (br_f (by decide) (br_f (by decide) (br_f (by decide) (br_f (by decide) (br_f (by decide) (br_t rfl (r_asksC (t := 231) (l := [116, 111, 112]) (by decide) R (fun _ s1 R1 => h s1 R1) (fun q _ _ _ => absurd hT q)))))))))
  · exact (br_f (by decide) (br_f (by decide) (br_f (by decide) (br_f (by decide) (br_f (by decide) (br_f (by decide) (br_f (by decide) (br_t rfl (r_asksC (t := 232) (l := [98, 111, 116, 116, 111, 109]) (by decide) R (fun _ s1 R1 => h s1 R1) (fun q _ _ _ => absurd hT q))))))))))
  · exact (br_f (by decide) (br_f (by decide) (br_f (by decide) (br_f (by decide) (br_f (by decide) (br_f (by decide) (br_f (by decide) (br_f (by decide) (br_t rfl (r_asksC (t := 233) (l := [119, 97, 121, 115]) (by decide) R (fun _ s1 R1 => h s1 R1) (fun q _ _ _ => absurd hT q)))))))))))
  · exact (br_f (by decide) (br_f (by decide) (br_f (by decide) (br_f (by decide) (br_f (by decide) (br_f (by decide) (br_f (by decide) (br_f (by decide) (br_f (by decide) (br_t rfl (r_asksC (t := 234) (l := [104, 97, 100]) (by decide) R (fun _ s1 R1 => h s1 R1) (fun q _ _ _ => absurd hT q))))))))))))
  · exact (br_f (by decide) (br_f (by decide) (br_f (by decide) (br_f (by decide) (br_f (by decide) (br_f (by decide) (br_f (by decide) (br_f (by decide) (br_f (by decide) (br_f (by decide) (br_t rfl (r_asksC (t := 235) (l := [115, 116, 111, 99, 107]) (by decide) R (fun _ s1 R1 => h s1 R1) (fun q _ _ _ => absurd hT q)))))))))))))
  · exact (br_f (by decide) (br_f (by decide) (br_f (by decide) (br_f (by decide) (br_f (by decide) (br_f (by decide) (br_f (by decide) (br_f (by decide) (br_f (by decide) (br_f (by decide) (br_f (by decide) (r_asksC (t := 236) (l := [102, 105, 116, 115]) (by decide) R (fun _ s1 R1 => h s1 R1) (fun q _ _ _ => absurd hT q)))))))))))))
theorem r_asksBad {t : Nat} {Q : sT → Prop} {s : sT} (h5 : ¬ rI s 162 5 = 0) (h : Q s) : c12_asks t Q s := e_c12_asks (br_f h5 h)
theorem r_asksWordBad {v : Int32} {Q : sT → Prop} {s : sT} (h5 : ¬ rI s 162 5 = 0) (h : Q s) : c12_qAsksWord v Q s := by
  have a : ∀ t, c12_asks t Q s := fun t => r_asksBad h5 h
  exact e_c12_qAsksWord (br_c (fun _ => a _) (fun _ => br_c (fun _ => a _) (fun _ => br_c (fun _ => a _) (fun _ => br_c (fun _ => a _) (fun _ => br_c (fun _ => a _) (fun _ => br_c (fun _ => a _) (fun _ => br_c (fun _ => a _) (fun _ => br_c (fun _ => a _) (fun _ => br_c (fun _ => a _) (fun _ => br_c (fun _ => a _) (fun _ => br_c (fun _ => a _) (fun _ => a _)))))))))))) 
def FFq (v1 : Int32) (Q : sT → Prop) : Int32 → sT → Prop := fun y u => (y = 0 → c12_qSums_15 v1 (0 : Int32) Q u) ∧ (¬ y = 0 → c12_qSums_15 v1 (1 : Int32) Q u)
def KKq (v1 : Int32) (Q : sT → Prop) : sT → Prop := fun u => ((rI u 162 5) = 0 → c12_qGoesOn (FFq v1 Q) u) ∧ (¬ (rI u 162 5) = 0 → c12_qSums_15 v1 (0 : Int32) Q u)
/-- about to read a part -/
def SWq (v1 : Int32) (Q : sT → Prop) (s : sT) : Prop := c12_qPartTold_2 (1 : Int32) (KKq v1 Q) s
/-- behind a part, before those that wait for it -/
def EEq (v1 : Int32) (Q : sT → Prop) (s : sT) : Prop := ∀ K : sT → Prop, (∀ u, rI u 162 5 = 0 → c12_qGoesOn (FFq v1 Q) u → K u) → c12_qEndsPart K s
theorem EE_KK {v1 : Int32} {Q : sT → Prop} {s : sT} (h : EEq v1 Q s) : c12_qEndsPart (KKq v1 Q) s := h _ (fun _ h5 g => ⟨fun _ => g, fun q => absurd h5 q⟩)
theorem EE_G {v1 : Int32} {Q : sT → Prop} {s : sT} (h : EEq v1 Q s) : c12_qEndsPart (fun s => c12_qGoesOn (FFq v1 Q) s) s := h _ (fun _ _ g => g)
/-- all that is left with a fault -/
theorem KK_bad {v1 : Int32} {Q : sT → Prop} {s : sT} {f pl : Nat} (X : RX s f pl) (h : c12_qSums_15 v1 (0 : Int32) Q s) : KKq v1 Q s := ⟨fun q => absurd q (RX_n0 X), fun _ => h⟩
theorem SW_bad {v1 : Int32} {Q : sT → Prop} {s : sT} {f pl : Nat} (X : RX s f pl) (h : c12_qSums_15 v1 (0 : Int32) Q s) : SWq v1 Q s :=
  e_c12_qPartTold_2 (br_f (by decide) (br_f (RX_n0 X) (e_c12_qPartTold_186 (br_f (RX_n0 X) (KK_bad X h)))))
theorem r_endsBad {s : sT} {f pl : Nat} {Q : sT → Prop} (X : RX s f pl) (h : Q s) : c12_qEndsPart Q s := e_c12_qEndsPart (br_f (RX_n0 X) h)
theorem whC_no {tk : Nat} {T : Tok} (h : ∀ l, T ≠ tWd l) : whC tk T = 0 := by
  cases e : whC tk T with
  | zero => rfl
  | succ k => exact absurd (whC_eq e) (h _)
theorem ofC_le {tk lo hi : Nat} {T : Tok} : ofC tk lo hi T ≤ 12 := by
  have := whC_le (tk := tk) (T := T)
  unfold ofC
  split <;> omega
/-- the state when a place is set -/
theorem RN_of {s s' : sT} {b : Nat → Nat} {n : Nat} {P : pT} (N : RN s b n P) (L : RLx s' b n P) (e : rI s' 162 2 = rI s 162 2) : RN s' b n P := ⟨L, by rw [e]; exact N.2.1, N.2.2⟩
theorem s_open {v1 : Int32} {Q : sT → Prop} {s0 s : sT} {b : Nat → Nat} {n tk o B d : Nat} {P : pT} {C W : List Nat} (R : RC s0 s b n tk P C W o B (d + 1)) (hT : tok b n P = tSg 40) (h1 : o < 6 → ∀ s', RC s0 s' b n tk (adv b n P) C (W ++ [20]) (o + 1) B (d + 1) → SWq v1 Q s') (h0 : o = 6 → ∀ s', Fr XPR s0 s' → RY s' 4 P.1 → c12_qSums_15 v1 (0 : Int32) Q s') : SWq v1 Q s := by
  obtain ⟨q1, q2, q3⟩ := tok_sign.1 hT
  refine e_c12_qPartTold_2 (br_f (by decide) (br_t R.2.2.1.1 (r_lookC R (fun s1 R1 N1 => r_wordOf (lo := 10) (hi := 12) (by decide) (by decide) R1 (fun s2 R2 N2 => ?_)))))
  refine br_t ((lkv_sign R.2.1.1 (c := 40) (by decide) (by decide)).2 hT) ?_
  rw [N2.2.1]
  refine r_opens (v := 20) (by decide) R2 (fun q s3 R3 e3 u hu => ?_) (fun q s3 F3 X3 u hu => ?_)
  · exact h1 q u (r_passC R3 (RN_of N2 R3.2.2.1 e3) q1 q2 hu)
  · have X4 : RY u 4 P.1 := RY_w X3 hu (by omega)
    exact SW_bad X4.1 (h0 q u (by rw [hu]; exact fr_wI F3 rfl) X4)
theorem s_of {k : Nat} {v1 : Int32} {Q : sT → Prop} {s0 s : sT} {b : Nat → Nat} {n o B d : Nat} {P : pT} {C W : List Nat} (hk : k < 2) (R : RC s0 s b n 2 P C W o B (d + 1)) (hT : tok b n P = tWd (wdK (10 + k))) (h1 : o < 6 → ∀ s', RC s0 s' b n 2 (adv b n P) C (W ++ [60 + k]) (o + 1) B (d + 1) → SWq v1 Q s') (h0 : o = 6 → ∀ s', Fr XPR s0 s' → RY s' 4 P.1 → c12_qSums_15 v1 (0 : Int32) Q s') : SWq v1 Q s := by
  have hl : lkv b n P ≠ (40 : Int32) := fun y => by
    have := (lkv_sign R.2.1.1 (c := 40) (by decide) (by decide)).1 y
    rw [hT] at this
    exact absurd (Prod.mk.inj this).1 (by decide)
  have hw : whC 2 (tok b n P) = 11 + k := by
    rw [hT]
    have : k = 0 ∨ k = 1 := by omega
    rcases this with rfl | rfl <;> decide
  have hof : ofC 2 10 12 (tok b n P) = 11 + k := by
    unfold ofC
    have ha : alw 2 (11 + k - 1) = true := by
      have : k = 0 ∨ k = 1 := by omega
      rcases this with rfl | rfl <;> rfl
    rw [hw, if_pos ⟨by omega, by omega, ha⟩]
  have nw : ∀ l, wdK (10 + k) ≠ l → tok b n P ≠ tWd l := fun l q y => by
    rw [hT] at y
    exact q (Prod.mk.inj y).2
  have nmin : wdK (10 + k) ≠ [109, 105, 110] ∧ wdK (10 + k) ≠ [109, 97, 120] := by
    have : k = 0 ∨ k = 1 := by omega
    rcases this with rfl | rfl <;> exact ⟨by decide, by decide⟩
  refine e_c12_qPartTold_2 (br_f (by decide) (br_t R.2.2.1.1 (r_lookC R (fun s1 R1 N1 => r_wordOf (lo := 10) (hi := 12) (by decide) (by decide) R1 (fun s2 R2 N2 => ?_)))))
  rw [hof, show 11 + k = (10 + k) + 1 by omega, cV_s]
  refine br_f hl (r_hereC (t := 223) (l := [109, 105, 110]) (by decide) R2 (fun q _ _ _ => absurd q (nw _ nmin.1)) (fun _ s3 R3 N3 => no0 (r_hereC (t := 224) (l := [109, 97, 120]) (by decide) R3 (fun q _ _ _ => absurd q (nw _ nmin.2)) (fun _ s4 R4 N4 => no0 (br_f (nI_nm (by omega)) ?_)))))
  have e60 : (((60 : Int32) + nI (10 + k)) - (10 : Int32)) = nI (60 + k) := by
    rw [show (60 : Int32) = nI 60 from rfl, nI_add, show (10 : Int32) = nI 10 from rfl, pk_sub (by omega)]
    congr 1
    omega
  rw [e60, N4.2.1]
  refine r_opens (by omega) R4 (fun q s5 R5 e5 => r_asksWord (by omega) hT R5 (fun s6 R6 => h1 q s6 R6)) (fun q s5 F5 X5 => r_asksWordBad (RX_n0 X5.1) (SW_bad X5.1 (h0 q s5 F5 X5)))
theorem s_pair {k : Nat} {v1 : Int32} {Q : sT → Prop} {s0 s : sT} {b : Nat → Nat} {n tk o B d : Nat} {P : pT} {C W : List Nat} (hk : k = 0 ∧ tok b n P = tWd [109, 105, 110] ∨ k = 1 ∧ tok b n P = tWd [109, 97, 120]) (R : RC s0 s b n tk P C W o B (d + 1)) (h1 : tok b n (adv b n P) = tSg 40 → o < 6 → ∀ s', RC s0 s' b n tk (adv b n (adv b n P)) C (W ++ [21 + k]) (o + 1) B (d + 1) → SWq v1 Q s') (h0 : tok b n (adv b n P) = tSg 40 → o = 6 → ∀ s', Fr XPR s0 s' → RY s' 4 (adv b n P).1 → c12_qSums_15 v1 (0 : Int32) Q s') (h2 : tok b n (adv b n P) ≠ tSg 40 → ∀ s', Fr XPR s0 s' → RY s' 1 (adv b n P).1 → c12_qSums_15 v1 (0 : Int32) Q s') : SWq v1 Q s := by
  have hwd : ∃ l, tok b n P = tWd l := by rcases hk with q | q <;> exact ⟨_, q.2⟩
  have hl : lkv b n P ≠ (40 : Int32) := fun y => by
    have := (lkv_sign R.2.1.1 (c := 40) (by decide) (by decide)).1 y
    obtain ⟨l, e⟩ := hwd
    rw [e] at this
    exact absurd (Prod.mk.inj this).1 (by decide)
  have s118 : ∀ (y1 : Int32) s3, (y1 = if k = 0 then 1 else 0) → RC s0 s3 b n tk (adv b n P) C W o B (d + 1 + 1) → c12_look (fun y6 u7 => (y6 = (40 : Int32) → c12_qPartTold_118 (1 : Int32) y1 (rI u7 162 2) (KKq v1 Q) (fun v1' s => c12_qPartTold_2 v1' (KKq v1 Q) s) u7) ∧ (¬ y6 = (40 : Int32) → c12_qPartTold_118 (1 : Int32) y1 (-1 : Int32) (KKq v1 Q) (fun v1' s => c12_qPartTold_2 v1' (KKq v1 Q) s) u7)) s3 := by
    intro y1 s3 hy R3
    refine r_lookC R3 (fun s4 R4 N4 => ?_)
    have h40 : lkv b n (adv b n P) = (40 : Int32) ↔ tok b n (adv b n P) = tSg 40 := lkv_sign R.2.1.1 (c := 40) (by decide) (by decide)
    rw [h40]
    have ln := N4.1.2.1
    have op : ∀ v, v = 21 + k → tok b n (adv b n P) = tSg 40 → c12_qOpens (nI v) (rI s4 162 2) (fun u2 => c12_asksSign (40 : Int32) (fun u3 => c12_qPartTold_2 (1 : Int32) (KKq v1 Q) u3) u2) s4 := by
      intro v hv q
      have hk2 : k < 2 := by rcases hk with y | y <;> omega
      rw [N4.2.1]
      refine r_opens (by omega) (RC_d R4 (d' := d + 1) (by omega)) (fun q2 s5 R5 e5 => r_asksSignC (c := 40) (by decide) (by decide) R5 (fun _ s6 R6 => h1 q q2 s6 (by rw [← hv]; exact R6)) (fun q3 _ _ _ => absurd q q3)) (fun q2 s5 F5 X5 => e_c12_asksSign (br_f (RX_n0 X5.1) (SW_bad X5.1 (h0 q q2 s5 F5 X5))))
    refine br_c (fun q => e_c12_qPartTold_118 (br_f ?_ ?_)) (fun q => e_c12_qPartTold_118 (br_t rfl (r_asksSignC (c := 40) (by decide) (by decide) R4 (fun q2 _ _ => absurd q2 q) (fun _ s5 F5 X5 => SW_bad X5.1 (h2 q s5 F5 X5)))))
    · rw [N4.2.1]
      have := R.2.1.1.1
      exact nI_nm (by omega)
    · rw [hy]
      rcases hk with y | y
      · rw [if_pos y.1]
        exact yes1 (op 21 (by omega) q)
      · rw [if_neg (by omega)]
        exact no0 (op 22 (by omega) q)
  have s78 : ∀ s1, RC s0 s1 b n tk P C W o B (d + 1) → c12_qPartTold_78 (1 : Int32) (KKq v1 Q) (fun v1' s => c12_qPartTold_2 v1' (KKq v1 Q) s) s1 := fun s1 R1 => by
    refine e_c12_qPartTold_78 ?_
    rcases hk with y | y
    · exact r_takesC (t := 223) (l := [109, 105, 110]) (by decide) R1 (fun _ s2 R2 => yes1 (s118 1 s2 (by rw [if_pos y.1]) R2)) (fun q _ _ _ => absurd y.2 q)
    · refine r_takesC (t := 223) (l := [109, 105, 110]) (by decide) R1 (fun q _ _ => ?_) (fun q s2 R2 _ => no0 (r_asksC (t := 224) (l := [109, 97, 120]) (by decide) R2 (fun _ s3 R3 => s118 0 s3 (by rw [if_neg (by omega)]) R3) (fun q2 _ _ _ => absurd y.2 q2)))
      rw [y.2] at q
      exact absurd (Prod.mk.inj q).2 (by decide)
  refine e_c12_qPartTold_2 (br_f (by decide) (br_t R.2.2.1.1 (r_lookC R (fun s1 R1 N1 => r_wordOf (lo := 10) (hi := 12) (by decide) (by decide) R1 (fun s2 R2 N2 => br_f hl ?_)))))
  rcases hk with y | y
  · exact r_hereC (t := 223) (l := [109, 105, 110]) (by decide) R2 (fun _ s3 R3 _ => yes1 (s78 s3 R3)) (fun q _ _ _ => absurd y.2 q)
  · refine r_hereC (t := 223) (l := [109, 105, 110]) (by decide) R2 (fun q _ _ _ => ?_) (fun _ s3 R3 _ => no0 (r_hereC (t := 224) (l := [109, 97, 120]) (by decide) R3 (fun _ s4 R4 _ => yes1 (s78 s4 R4)) (fun q _ _ _ => absurd y.2 q)))
    rw [y.2] at q
    exact absurd (Prod.mk.inj q).2 (by decide)
/-- a part that opens nothing: to its end -/
theorem s_prim {v1 : Int32} {Q : sT → Prop} {s0 s : sT} {b : Nat → Nat} {n tk o B d : Nat} {P : pT} {C W : List Nat} (R : RC s0 s b n tk P C W o B d) (n40 : tok b n P ≠ tSg 40) (nmi : tok b n P ≠ tWd [109, 105, 110]) (nma : tok b n P ≠ tWd [109, 97, 120]) (nof : ofC tk 10 12 (tok b n P) = 0) (h : ∀ s1, RC s0 s1 b n tk P C W o B d → c12_qPartTold_186 (KKq v1 Q) s1) : SWq v1 Q s := by
  have hl : lkv b n P ≠ (40 : Int32) := fun y => n40 ((lkv_sign R.2.1.1 (c := 40) (by decide) (by decide)).1 y)
  refine e_c12_qPartTold_2 (br_f (by decide) (br_t R.2.2.1.1 (r_lookC R (fun s1 R1 N1 => r_wordOf (lo := 10) (hi := 12) (by decide) (by decide) R1 (fun s2 R2 N2 => br_f hl (r_hereC (t := 223) (l := [109, 105, 110]) (by decide) R2 (fun q _ _ _ => absurd q nmi) (fun _ s3 R3 _ => no0 (r_hereC (t := 224) (l := [109, 97, 120]) (by decide) R3 (fun q _ _ _ => absurd q nma) (fun _ s4 R4 _ => no0 ?_)))))))))
  rw [nof, cV_0]
  exact br_t rfl (e_c12_qPartTold_2 (br_t rfl (h s4 R4)))
theorem s_fact {k : Nat} {v1 : Int32} {Q : sT → Prop} {s0 s : sT} {b : Nat → Nat} {n tk o B d : Nat} {P : pT} {C W : List Nat} (R : RC s0 s b n tk P C W o B d) (hk : k < 10) (hT : tok b n P = tWd (wdK k)) (hw : whC tk (tok b n P) = k + 1) (ha : alw tk k = true) (h : ∀ s', RC s0 s' b n tk (adv b n P) (C ++ [40 + k]) W o B d → EEq v1 Q s') : SWq v1 Q s := by
  have nn : ∀ l, wdK k ≠ l → tok b n P ≠ tWd l := fun l q y => by
    rw [hT] at y
    exact q (Prod.mk.inj y).2
  have nm : wdK k ≠ [109, 105, 110] ∧ wdK k ≠ [109, 97, 120] := by
    have : k = 0 ∨ k = 1 ∨ k = 2 ∨ k = 3 ∨ k = 4 ∨ k = 5 ∨ k = 6 ∨ k = 7 ∨ k = 8 ∨ k = 9 := by omega
    rcases this with rfl | rfl | rfl | rfl | rfl | rfl | rfl | rfl | rfl | rfl <;> exact ⟨by decide, by decide⟩
  refine s_prim R (fun y => by rw [hT] at y; exact absurd (Prod.mk.inj y).1 (by decide)) (nn _ nm.1) (nn _ nm.2) (by unfold ofC; rw [hw, if_neg (by omega)]) (fun s1 R1 => ?_)
  have hof : ofC tk 0 10 (tok b n P) = k + 1 := by
    unfold ofC
    rw [hw, Nat.add_sub_cancel, ha, if_pos ⟨by omega, by omega, rfl⟩]
  refine e_c12_qPartTold_186 (br_t R1.2.2.1.1 (r_wordOf (lo := 0) (hi := 10) (by decide) (by decide) R1 (fun s2 R2 _ => ?_)))
  rw [hof, cV_s]
  refine br_f (nI_nm (by omega)) (r_asksWord (by omega) hT R2 (fun s3 R3 => br_f (nI_nm (by omega)) ?_))
  rw [show (40 : Int32) = nI 40 from rfl, nI_add]
  exact r_code R3 (fun s4 R4 => EE_KK (h s4 R4))
theorem s_num {l : List Nat} {v1 : Int32} {Q : sT → Prop} {s0 s : sT} {b : Nat → Nat} {n tk o B d : Nat} {P : pT} {C W : List Nat} (R : RC s0 s b n tk P C W o B d) (hT : tok b n P = tNm l) (h : l.length ≤ 4 → nmV l 0 < 10000 → ∀ s', RC s0 s' b n tk (adv b n P) (C ++ [1000 + nmV l 0]) W o B d → EEq v1 Q s') (h0 : 4 < l.length → ∀ s', Fr XPR s0 s' → RY s' 1 (P.1 + 4) → c12_qSums_15 v1 (0 : Int32) Q s') : SWq v1 Q s := by
  have nn : ∀ l', tok b n P ≠ tWd l' := fun l' y => by rw [hT] at y; exact absurd (Prod.mk.inj y).1 (by decide)
  have hw := whC_no (tk := tk) nn
  refine s_prim R (fun y => by rw [hT] at y; exact absurd (Prod.mk.inj y).1 (by decide)) (nn _) (nn _) (by unfold ofC; rw [hw, if_neg (by omega)]) (fun s1 R1 => ?_)
  have hof : ofC tk 0 10 (tok b n P) = 0 := by
    unfold ofC
    rw [hw, if_neg (by omega)]
  refine e_c12_qPartTold_186 (br_t R1.2.2.1.1 (r_wordOf (lo := 0) (hi := 10) (by decide) (by decide) R1 (fun s2 R2 _ => ?_)))
  rw [hof, cV_0]
  have inj : ∀ l', tok b n P = tNm l' → l' = l := fun l' y => by rw [hT] at y; exact (Prod.mk.inj y).2.symm
  have hle := RC_le R2
  refine br_t rfl (br_t rfl (r_number (lo := 0) (hi := 9999) (by decide) (by decide) R2.2.1.1 R2.2.2.1 (fun l' e a1 a2 a3 a4 s3 F3 L3 _ => ?_) (fun l' e a1 a2 a3 => absurd ⟨Nat.zero_le _, by omega⟩ a2) (fun l' e a1 s3 F3 X3 => ?_) (fun q => absurd hT (q l))))
  · rw [inj l' e] at a1 a4 ⊢
    rw [show (1000 : Int32) = nI 1000 from rfl, nI_add]
    exact r_code (RC_a R2 F3 L3) (fun s4 R4 => EE_KK (h a1 a4 s4 R4))
  · rw [inj l' e] at a1
    refine e_c12_qCode ⟨?_, fun u hu w hw2 => r_endsBad (f := 1) (pl := P.1 + 4) ?_ (KK_bad (f := 1) (pl := P.1 + 4) ?_ (h0 a1 w ?_ ?_))⟩
    · rw [F3.1 _ _ rfl, R2.2.2.2.2.1.1]
      exact vp_in_nI (by omega) (by decide)
    all_goals
      have X4 : RY w 1 (P.1 + 4) := ⟨⟨by rw [hw2, rI_wI, if_neg (by omega), hu, rI_wI, if_neg (by omega)]; exact X3.1, X3.2.1, X3.2.2.1, by rw [hw2, rI_wI, if_neg (by omega), hu, rI_wI, if_neg (by omega)]; exact X3.2.2.2⟩, C.length + 1, by omega, by rw [hw2, rI_wI, if_pos ⟨rfl, rfl⟩, hu, rI_wI, if_neg (by omega), F3.1 _ _ rfl, R2.2.2.2.2.1.1, nI_1]⟩
    · exact X4.1
    · exact X4.1
    · rw [hw2, hu]
      exact fr_wI (fr_wI (fr_tr R2.1 (fr_mo F3 fun a j q => xpr_l q)) rfl) rfl
    · exact X4
theorem s_none {v1 : Int32} {Q : sT → Prop} {s0 s : sT} {b : Nat → Nat} {n tk o B d : Nat} {P : pT} {C W : List Nat} (R : RC s0 s b n tk P C W o B d) (n40 : tok b n P ≠ tSg 40) (nmi : tok b n P ≠ tWd [109, 105, 110]) (nma : tok b n P ≠ tWd [109, 97, 120]) (nof : ofC tk 10 12 (tok b n P) = 0) (npa : ofC tk 0 10 (tok b n P) = 0) (nnu : ∀ l, tok b n P ≠ tNm l) (h0 : ∀ s', Fr XPR s0 s' → RY s' 1 P.1 → c12_qSums_15 v1 (0 : Int32) Q s') : SWq v1 Q s := by
  refine s_prim R n40 nmi nma nof (fun s1 R1 => ?_)
  refine e_c12_qPartTold_186 (br_t R1.2.2.1.1 (r_wordOf (lo := 0) (hi := 10) (by decide) (by decide) R1 (fun s2 R2 _ => ?_)))
  rw [npa, cV_0]
  have hle := RC_le R2
  refine br_t rfl (br_t rfl (r_number (lo := 0) (hi := 9999) (by decide) (by decide) R2.2.1.1 R2.2.2.1 (fun l' e => absurd e (nnu l')) (fun l' e => absurd e (nnu l')) (fun l' e => absurd e (nnu l')) (fun _ s3 F3 X3 => ?_)))
  refine e_c12_qCode ⟨?_, fun u hu w hw2 => r_endsBad (f := 1) (pl := P.1) ?_ (KK_bad (f := 1) (pl := P.1) ?_ (h0 w ?_ ?_))⟩
  · rw [F3.1 _ _ rfl, R2.2.2.2.2.1.1]
    exact vp_in_nI (by omega) (by decide)
  all_goals
    have X4 : RY w 1 P.1 := ⟨⟨by rw [hw2, rI_wI, if_neg (by omega), hu, rI_wI, if_neg (by omega)]; exact X3.1, X3.2.1, X3.2.2.1, by rw [hw2, rI_wI, if_neg (by omega), hu, rI_wI, if_neg (by omega)]; exact X3.2.2.2⟩, C.length + 1, by omega, by rw [hw2, rI_wI, if_pos ⟨rfl, rfl⟩, hu, rI_wI, if_neg (by omega), F3.1 _ _ rfl, R2.2.2.2.2.1.1, nI_1]⟩
  · exact X4.1
  · exact X4.1
  · rw [hw2, hu]
    exact fr_wI (fr_wI (fr_tr R2.1 (fr_mo F3 fun a j q => xpr_l q)) rfl) rfl
  · exact X4
