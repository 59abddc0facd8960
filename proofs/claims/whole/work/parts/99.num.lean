-- numbers, in the reference
theorem r_num49 {b : Nat → Nat} {n lo hi : Nat} {P : pT} {l : List Nat} {Q : Int32 → sT → Prop} {s0 : sT} (hh : hi < 100000) (hll : lo < 100000) (T : TR s0 b n) (hk : tok b n P = tNm l) (h1 : l.length ≤ 4 → lo ≤ nmV l 0 → nmV l 0 ≤ hi → nmV l 0 < 10000 → ∀ s', Fr XLS s0 s' → RLx s' b n (adv b n P) → rI s' 162 10 = nI P.1 → Q (nI (nmV l 0)) s') (h2 : l.length ≤ 4 → ¬ (lo ≤ nmV l 0 ∧ nmV l 0 ≤ hi) → nmV l 0 < 10000 → ∀ s', Fr XLR s0 s' → RX s' 2 P.1 → Q (nI (nmV l 0)) s') (h3 : 4 < l.length → ∀ s', Fr XLR s0 s' → RX s' 1 (P.1 + 4) → Q 0 s') : ∀ m i a s, i + m = n → P.1 ≤ i → i ≤ P.1 + 4 → Fr XLS s0 s → rI s 162 2 = nI i → rI s 162 5 = 0 → a < 10 ^ (i - P.1) → run b n 2 i = eot b n P.1 → nmV (sub b i (eot b n P.1)) a = nmV l 0 → c12_number_49 (nI lo) (nI hi) (nI P.1) (nI a) Q s := by
  have hn := T.1
  obtain ⟨d1, d2, d3, d4⟩ := tok_num.1 hk
  have he := eot_le (b := b) d1
  have hg := eot_gt (b := b) (n := n) (i := P.1)
  have hlen : l.length = eot b n P.1 - P.1 := by rw [← d4, sub_len]
  have p4 : ∀ i, i ≤ P.1 + 4 → 10 ^ (i - P.1) ≤ 10 ^ 4 := fun i h => Nat.pow_le_pow_right (by decide) (by omega)
  have done : ∀ i a s, P.1 ≤ i → i ≤ P.1 + 4 → i = eot b n P.1 → Fr XLS s0 s → rI s 162 2 = nI i → rI s 162 5 = 0 → a < 10 ^ (i - P.1) → a = nmV l 0 → ∀ u6 : sT, u6 = wI s 162 4 (rI s 162 2) → ∀ u7 : sT, u7 = wI u6 162 10 (nI P.1) → c12_isIn (Int32.toInt64 (nI a)) (Int32.toInt64 (nI lo)) (Int32.toInt64 (nI hi)) (fun y8 u9 => (y8 = 0 → c12_fail (2 : Int32) (rI u9 162 10) (fun u10 => Q (nI a) u10) u9) ∧ (¬ y8 = 0 → Q (nI a) u9)) u7 := by
    intro i a s gi gi4 hie F c2 c5 ha hv u hu v hu2
    have := p4 i gi4
    have Fv : Fr XLS s0 v := by rw [hu2, hu]; exact fr_wI (fr_wI F rfl) rfl
    have v10 : rI v 162 10 = nI P.1 := by rw [hu2, rI_wI, if_pos ⟨rfl, rfl⟩]
    have v5 : rI v 162 5 = 0 := by rw [hu2, rI_wI, if_neg (by omega), hu, rI_wI, if_neg (by omega)]; exact c5
    have v4 : rI v 162 4 = nI (eot b n P.1) := by rw [hu2, rI_wI, if_neg (by omega), hu, rI_wI, if_pos ⟨rfl, rfl⟩, c2, hie]
    have v2 : rI v 162 2 = nI (eot b n P.1) := by rw [hu2, rI_wI, if_neg (by omega), hu, rI_wI, if_neg (by omega), c2, hie]
    have ew : (Int32.toInt64 (nI lo)).toInt ≤ (Int32.toInt64 (nI a)).toInt ∧ (Int32.toInt64 (nI a)).toInt ≤ (Int32.toInt64 (nI hi)).toInt ↔ lo ≤ a ∧ a ≤ hi := by
      rw [wide, wide, wide, nI_toInt (by omega), nI_toInt (by omega), nI_toInt (by omega)]
      omega
    rw [hv] at ew ha ⊢
    refine m_isIn (fun q => yes1 ?_) (fun q => no0 ?_)
    · rw [ew] at q
      exact h1 (by omega) q.1 q.2 (by omega) v Fv (RL_adv (l := l) (TR_fr Fv rfl (fun _ => rfl) T) d1 (by rw [d2]; decide) v5 v2 v4) v10
    · rw [ew] at q
      rw [v10]
      exact r_fail (f := 2) v5 (by decide) (fun s' F' X' => h2 (by omega) q (by omega) s' (fr_tr (fr_mo Fv fun a j q => xls_r q) F') X')
  intro m
  induction m with
  | zero =>
    intro i a s e gi gi4 F c2 c5 ha hr hv
    rw [run_e (by omega)] at hr
    rw [nmV_at 0 i a (by omega), if_neg (by omega)] at hv
    exact e_c12_number_49 (br_f (by rw [c2, F.1 162 3 rfl, T.2.1]; exact nI_nlt (by omega) (by omega)) (done i a s gi gi4 hr F c2 c5 ha hv))
  | succ m ih =>
    intro i a s e gi gi4 F c2 c5 ha hr hv
    have hb := T.2.2 i (by omega)
    have := p4 i gi4
    refine e_c12_number_49 (br_t (by rw [c2, F.1 162 3 rfl, T.2.1]; exact nI_lt (by omega) (by omega)) ⟨by rw [c2]; exact vp_in_nI (by omega) (by decide), ?_⟩)
    have hval : rI s 163 (rI s 162 2).toNatClampNeg = nI (b i) := by rw [c2, nI_clamp (by omega), F.1 163 _ rfl, hb.2]
    rw [hval]
    refine r_digit hb.1 (fun q => yes1 ?_) (fun q => no0 ?_)
    · have hie : i < eot b n P.1 := by
        rw [← hr, run_s (by omega) q]
        have := run_ge (b := b) (n := n) (k := 2) (i := i + 1)
        omega
      have hdg := dig_of q
      rw [hval, c2, pk_sub gi, show (4 : Int32) = nI 4 from rfl, nI_eq (by omega) (by decide)]
      refine br_c (fun y => r_fail (f := 1) c5 (by decide) (fun s' F' X' => h3 (by omega) s' (fr_tr (fr_mo F fun a j q => xls_r q) F') (by rw [show P.1 + 4 = i by omega]; exact X'))) (fun y => ⟨vp_in_nI (by omega) (by decide), fun x hx u hu => ?_⟩)
      rw [show (10 : Int32) = nI 10 from rfl, pk_mul, nI_add, show (48 : Int32) = nI 48 from rfl, pk_sub (by omega)] at hx
      rw [nI_1] at hu
      rw [hx]
      rw [nmV_at (eot b n P.1 - i) i a (by omega), if_pos hie] at hv
      refine ih (i + 1) _ u (by omega) (by omega) (by omega) (by rw [hu]; exact fr_wI F rfl) (by rw [hu, rI_wI, if_pos ⟨rfl, rfl⟩]) (by rw [hu, rI_wI, if_neg (by omega)]; exact c5) ?_ (by rw [← run_s (by omega) q]; exact hr) (by rw [show 10 * a + b i - 48 = a * 10 + (b i - 48) by omega]; exact hv)
      rw [show i + 1 - P.1 = (i - P.1) + 1 by omega, Nat.pow_succ]
      omega
    · rw [run_e (fun y => q y.2)] at hr
      rw [nmV_at 0 i a (by omega), if_neg (by omega)] at hv
      exact done i a s gi gi4 hr F c2 c5 ha hv
theorem r_number {b : Nat → Nat} {n lo hi : Nat} {P : pT} {Q : Int32 → sT → Prop} {s : sT} (hh : hi < 100000) (hll : lo < 100000) (T : TR s b n) (R : RLx s b n P) (h1 : ∀ l, tok b n P = tNm l → l.length ≤ 4 → lo ≤ nmV l 0 → nmV l 0 ≤ hi → nmV l 0 < 10000 → ∀ s', Fr XLS s s' → RLx s' b n (adv b n P) → rI s' 162 10 = nI P.1 → Q (nI (nmV l 0)) s') (h2 : ∀ l, tok b n P = tNm l → l.length ≤ 4 → ¬ (lo ≤ nmV l 0 ∧ nmV l 0 ≤ hi) → nmV l 0 < 10000 → ∀ s', Fr XLR s s' → RX s' 2 P.1 → Q (nI (nmV l 0)) s') (h3 : ∀ l, tok b n P = tNm l → 4 < l.length → ∀ s', Fr XLR s s' → RX s' 1 (P.1 + 4) → Q 0 s') (h0 : (∀ l, tok b n P ≠ tNm l) → ∀ s', Fr XLR s s' → RX s' 1 P.1 → Q 0 s') : c12_number (nI lo) (nI hi) Q s := by
  have hn := T.1
  refine e_c12_number (br_t R.1 (r_look T R (fun s1 F1 N1 => ?_)))
  have F1' : Fr XLR s s1 := fr_mo F1 fun a j q => xlr_2 q
  have F1s : Fr XLS s s1 := fr_mo F1 fun a j q => xls_2 q
  have T1 := TR_fr F1 rfl (fun _ => rfl) T
  have no : (∀ l, tok b n P ≠ tNm l) → c12_fail (1 : Int32) (rI s1 162 2) (fun u => Q 0 u) s1 := fun q => by
    rw [N1.2.1]
    exact r_fail (f := 1) N1.1.1 (by decide) (fun s' F' X' => h0 q s' (fr_tr F1' F') X')
  unfold lkv
  by_cases q : P.1 < n
  · rw [if_pos q]
    have hb := T.2.2 P.1 (by omega)
    refine r_digit hb.1 (fun k1 => yes1 ?_) (fun k1 => no0 (no (fun l y => k1 (tok_num.1 y).2.1)))
    obtain ⟨N2, N3, N4⟩ := id N1
    obtain ⟨-, -, -, c, c6, c7, c8⟩ := id N2
    have hc2 : nI P.1 = cV c ↔ P.2 = true := by
      rw [c8]
      refine ⟨fun y => ?_, fun y => by rw [y, cV_s]⟩
      have := congrArg Int32.toInt y
      rw [cV_i (by omega), nI_toInt (by omega)] at this
      omega
    have hc3 : rI s1 162 2 = rI s1 162 4 ↔ P.2 = true := by rw [N3, c7]; exact hc2
    refine ⟨fun y => no (fun l z => ?_), fun y x hx => ?_⟩
    · have := (tok_num.1 z).2.2.1
      rw [hc3.1 y] at this
      cases this
    · have hp2 : P.2 = false := Bool.eq_false_iff.2 (fun z => y (hc3.2 z))
      have hT : tok b n P = tNm (sub b P.1 (eot b n P.1)) := tok_num.2 ⟨q, k1, hp2, rfl⟩
      rw [hx, N3]
      refine r_num49 hh hll T1 hT (fun a1 a2 a3 a4 s' F' R' e' => h1 _ hT a1 a2 a3 a4 s' (fr_tr F1s F') R' e') (fun a1 a2 a3 s' F' X' => h2 _ hT a1 a2 a3 s' (fr_tr F1' F') X') (fun a1 s' F' X' => h3 _ hT a1 s' (fr_tr F1' F') X') (n - P.1) P.1 0 s1 (by omega) (Nat.le_refl _) (by omega) fr_rf N3 N2.1 (by rw [Nat.sub_self]; decide) (eot_run q k1 (by decide)) rfl
  · rw [if_neg q]
    exact r_digit_m (no0 (no (fun l y => q (tok_num.1 y).1)))
-- words of parts
theorem r_hereC {t : Nat} {l : List Nat} {s0 s : sT} {b : Nat → Nat} {n tk o B d : Nat} {P : pT} {C W : List Nat} {Q : Int32 → sT → Prop} (h : (t, l) ∈ wRows) (R : RC s0 s b n tk P C W o B d) (h1 : tok b n P = tWd l → ∀ s', RC s0 s' b n tk P C W o B d → RN s' b n P → Q 1 s') (h0 : tok b n P ≠ tWd l → ∀ s', RC s0 s' b n tk P C W o B d → RN s' b n P → Q 0 s') : c12_isHere t Q s :=
  r_here (wl_of R.2.2.2.1 h) (wl_all _ h).2.2.1 R.2.1.1 R.2.2.1 (fun q s' F N => h1 q s' (RC_l R (fr_mo F fun a j q => xls_2 q) N.1 (Nat.le_refl _)) N) (fun q s' F N => h0 q s' (RC_l R (fr_mo F fun a j q => xls_2 q) N.1 (Nat.le_refl _)) N)
theorem r_takesC {t : Nat} {l : List Nat} {s0 s : sT} {b : Nat → Nat} {n tk o B d : Nat} {P : pT} {C W : List Nat} {Q : Int32 → sT → Prop} (h : (t, l) ∈ wRows) (R : RC s0 s b n tk P C W o B d) (h1 : tok b n P = tWd l → ∀ s', RC s0 s' b n tk (adv b n P) C W o B (d + 1) → Q 1 s') (h0 : tok b n P ≠ tWd l → ∀ s', RC s0 s' b n tk P C W o B d → RN s' b n P → Q 0 s') : c12_takes t Q s :=
  r_takes (wl_of R.2.2.2.1 h) (wl_all _ h).2.2.1 R.2.1.1 R.2.2.1 (fun q s' F N => h1 q s' (RC_a R F N)) (fun q s' F N => h0 q s' (RC_l R (fr_mo F fun a j q => xls_2 q) N.1 (Nat.le_refl _)) N)
theorem r_asksC {t : Nat} {l : List Nat} {s0 s : sT} {b : Nat → Nat} {n tk o B d : Nat} {P : pT} {C W : List Nat} {Q : sT → Prop} (h : (t, l) ∈ wRows) (R : RC s0 s b n tk P C W o B d) (h1 : tok b n P = tWd l → ∀ s', RC s0 s' b n tk (adv b n P) C W o B (d + 1) → Q s') (h0 : tok b n P ≠ tWd l → ∀ s', Fr XPR s0 s' → RY s' 1 P.1 → Q s') : c12_asks t Q s :=
  r_asks (wl_of R.2.2.2.1 h) (wl_all _ h).2.2.1 R.2.1.1 R.2.2.1 (fun q s' F N => h1 q s' (RC_a R F N)) (fun q s' F X => h0 q s' (fr_tr R.1 (fr_mo F fun a j q => xpr_l q)) (RY_of R F X))
theorem r_lookC {s0 s : sT} {b : Nat → Nat} {n tk o B d : Nat} {P : pT} {C W : List Nat} {Q : Int32 → sT → Prop} (R : RC s0 s b n tk P C W o B d) (h : ∀ s', RC s0 s' b n tk P C W o B d → RN s' b n P → Q (lkv b n P) s') : c12_look Q s :=
  r_look R.2.1.1 R.2.2.1 (fun s' F N => h s' (RC_l R (fr_mo F fun a j q => xls_2 q) N.1 (Nat.le_refl _)) N)
theorem r_signC {c : Nat} {s0 s : sT} {b : Nat → Nat} {n tk o B d : Nat} {P : pT} {C W : List Nat} {Q : Int32 → sT → Prop} (hc : c < 256) (h3 : kd c = 3) (R : RC s0 s b n tk P C W o B d) (h1 : tok b n P = tSg c → ∀ s', RC s0 s' b n tk (adv b n P) C W o B (d + 1) → rI s' 162 2 = nI (P.1 + 1) → Q 1 s') (h0 : tok b n P ≠ tSg c → ∀ s', RC s0 s' b n tk P C W o B d → RN s' b n P → Q 0 s') : c12_takesSign (nI c) Q s :=
  r_takesSign hc h3 R.2.1.1 R.2.2.1 (fun q s' F L e => h1 q s' (RC_a R (fr_mo F fun a j q => xls_2 q) L) e) (fun q s' F N => h0 q s' (RC_l R (fr_mo F fun a j q => xls_2 q) N.1 (Nat.le_refl _)) N)
theorem r_asksSignC {c : Nat} {s0 s : sT} {b : Nat → Nat} {n tk o B d : Nat} {P : pT} {C W : List Nat} {Q : sT → Prop} (hc : c < 256) (h3 : kd c = 3) (R : RC s0 s b n tk P C W o B d) (h1 : tok b n P = tSg c → ∀ s', RC s0 s' b n tk (adv b n P) C W o B (d + 1) → Q s') (h0 : tok b n P ≠ tSg c → ∀ s', Fr XPR s0 s' → RY s' 1 P.1 → Q s') : c12_asksSign (nI c) Q s :=
  r_asksSign hc h3 R.2.1.1 R.2.2.1 (fun q s' F N => h1 q s' (RC_a R F N)) (fun q s' F X => h0 q s' (fr_tr R.1 (fr_mo F fun a j q => xpr_l q)) (RY_of R F X))
/-- a sign passed by hand -/
theorem r_passC {s0 s u : sT} {b : Nat → Nat} {n tk o B d : Nat} {P : pT} {C W : List Nat} (R : RC s0 s b n tk P C W o B d) (N : RN s b n P) (h : P.1 < n) (h3 : kd (b P.1) = 3) (e : u = wI s 162 2 ((rI s 162 2) + (1 : Int32))) : RC s0 u b n tk (adv b n P) C W o B (d + 1) := by
  rw [N.2.1, nI_1] at e
  exact RC_a R (by rw [e]; exact fr_wI fr_rf rfl) (RL_sgn R.2.1.1 N h h3 e)
def whC (tk : Nat) (T : Tok) : Nat := if T = tWd [115, 105, 122, 101] then 1 else if tk < 2 ∧ T = tWd [115, 116, 111, 99, 107] then 2 else if T = tWd [100, 97, 121] then 3 else if T = tWd [112, 108, 97, 99, 101] then 4 else if T = tWd [104, 117, 110, 103, 101, 114] then 5 else if T = tWd [110, 117, 109, 98, 101, 114] then 6 else if T = tWd [116, 111, 112] then 7 else if T = tWd [98, 111, 116, 116, 111, 109] then 8 else if T = tWd [119, 97, 121, 115] then 9 else if T = tWd [104, 97, 100] then 10 else if T = tWd [115, 116, 111, 99, 107] then 11 else if T = tWd [102, 105, 116, 115] then 12 else 0
theorem r_wordHere {s0 s : sT} {b : Nat → Nat} {n tk o B d : Nat} {P : pT} {C W : List Nat} {Q : Int32 → sT → Prop} (R : RC s0 s b n tk P C W o B d) (h : ∀ s', RC s0 s' b n tk P C W o B d → RN s' b n P → Q (cV (whC tk (tok b n P))) s') : c12_qWordHere Q s := by
  have hv : ∀ k, cV (k + 1) = nI k := fun k => cV_s
  unfold whC at h
  have tail : tok b n P ≠ tWd [115, 105, 122, 101] → ¬ (tk < 2 ∧ tok b n P = tWd [115, 116, 111, 99, 107]) → ∀ s1, RC s0 s1 b n tk P C W o B d → c12_qWordHere_34 Q s1 := by
    intro n0 n1 s1 R1
    rw [if_neg n0, if_neg n1] at h
    refine e_c12_qWordHere_34 ?_
    refine r_hereC (l := [100, 97, 121]) (by decide) R1 (fun q s2 S2 N2 => yes1 ?_) (fun n2 s2 S2 N2 => no0 ?_)
    · rw [if_pos q] at h
      exact h s2 S2 N2
    rw [if_neg n2] at h
    refine r_hereC (l := [112, 108, 97, 99, 101]) (by decide) S2 (fun q s3 S3 N3 => yes1 ?_) (fun n3 s3 S3 N3 => no0 ?_)
    · rw [if_pos q] at h
      exact h s3 S3 N3
    rw [if_neg n3] at h
    refine r_hereC (l := [104, 117, 110, 103, 101, 114]) (by decide) S3 (fun q s4 S4 N4 => yes1 ?_) (fun n4 s4 S4 N4 => no0 ?_)
    · rw [if_pos q] at h
      exact h s4 S4 N4
    rw [if_neg n4] at h
    refine r_hereC (l := [110, 117, 109, 98, 101, 114]) (by decide) S4 (fun q s5 S5 N5 => yes1 ?_) (fun n5 s5 S5 N5 => no0 ?_)
    · rw [if_pos q] at h
      exact h s5 S5 N5
    rw [if_neg n5] at h
    refine r_hereC (l := [116, 111, 112]) (by decide) S5 (fun q s6 S6 N6 => yes1 ?_) (fun n6 s6 S6 N6 => no0 ?_)
    · rw [if_pos q] at h
      exact h s6 S6 N6
    rw [if_neg n6] at h
    refine r_hereC (l := [98, 111, 116, 116, 111, 109]) (by decide) S6 (fun q s7 S7 N7 => yes1 ?_) (fun n7 s7 S7 N7 => no0 ?_)
    · rw [if_pos q] at h
      exact h s7 S7 N7
    rw [if_neg n7] at h
    refine r_hereC (l := [119, 97, 121, 115]) (by decide) S7 (fun q s8 S8 N8 => yes1 ?_) (fun n8 s8 S8 N8 => no0 ?_)
    · rw [if_pos q] at h
      exact h s8 S8 N8
    rw [if_neg n8] at h
    refine r_hereC (l := [104, 97, 100]) (by decide) S8 (fun q s9 S9 N9 => yes1 ?_) (fun n9 s9 S9 N9 => no0 ?_)
    · rw [if_pos q] at h
      exact h s9 S9 N9
    rw [if_neg n9] at h
    refine r_hereC (l := [115, 116, 111, 99, 107]) (by decide) S9 (fun q s10 S10 N10 => yes1 ?_) (fun n10 s10 S10 N10 => no0 ?_)
    · rw [if_pos q] at h
      exact h s10 S10 N10
    rw [if_neg n10] at h
    refine r_hereC (l := [102, 105, 116, 115]) (by decide) S10 (fun q s11 S11 N11 => yes1 ?_) (fun n11 s11 S11 N11 => no0 ?_)
    · rw [if_pos q] at h
      exact h s11 S11 N11
    rw [if_neg n11] at h
    have := h s11 S11 N11
    rw [cV_0] at this
    exact this
  have e50 := R.2.2.2.2.2.2.2.2.1
  refine e_c12_qWordHere (r_hereC (l := [115, 105, 122, 101]) (by decide) R (fun q s1 R1 N1 => yes1 ?_) (fun n0 s1 R1 _ => no0 ?_))
  · rw [if_pos q] at h
    exact h s1 R1 N1
  · rw [R1.2.2.2.2.2.2.2.2.1, show (2 : Int32) = nI 2 from rfl, nI_ltI (by have := R.2.2.2.2.2.2.2.2.2.2.2.2; omega) (by decide)]
    refine br_c (fun q => r_hereC (l := [115, 116, 111, 99, 107]) (by decide) R1 (fun q2 s2 R2 N2 => yes1 ?_) (fun q2 s2 R2 _ => no0 (tail n0 (fun y => q2 y.2) s2 R2))) (fun q => tail n0 (fun y => q y.1) s1 R1)
    rw [if_neg n0, if_pos ⟨q, q2⟩] at h
    exact h s2 R2 N2
def alw (tk k : Nat) : Bool := if tk = 0 then decide (k < 4) else if tk = 1 then decide (k < 3 ∨ k = 4) else decide (k = 2 ∨ 3 < k)
theorem r_allowed {s0 s : sT} {b : Nat → Nat} {n tk o B d k : Nat} {P : pT} {C W : List Nat} {Q : Int32 → sT → Prop} (hk : k < 100) (R : RC s0 s b n tk P C W o B d) (h : Q (if alw tk k = true then 1 else 0) s) : c12_isAllowed (nI k) Q s := by
  have htk := R.2.2.2.2.2.2.2.2.2.2.2.2
  refine e_c12_isAllowed ?_
  unfold alw at h
  rw [R.2.2.2.2.2.2.2.2.1, show (0 : Int32) = nI 0 from rfl, show (1 : Int32) = nI 1 from rfl, show (2 : Int32) = nI 2 from rfl, show (3 : Int32) = nI 3 from rfl, show (4 : Int32) = nI 4 from rfl, nI_eq (by omega) (by decide), nI_eq (by omega) (by decide), nI_ltI (by omega) (by decide), nI_ltI (by omega) (by decide), nI_eq (by omega) (by decide), nI_eq (by omega) (by decide), nI_ltI (by decide) (by omega)]
  refine br_c (fun q => ?_) (fun q => br_c (fun q2 => ?_) (fun q2 => ?_))
  · rw [if_pos q] at h
    refine br_c (fun y => ?_) (fun y => ?_)
    · rw [if_pos (decide_eq_true y)] at h; exact h
    · rw [if_neg (by rw [decide_eq_false y]; decide)] at h; exact h
  · rw [if_neg q, if_pos q2] at h
    refine br_c (fun y => ?_) (fun y => br_c (fun z => ?_) (fun z => ?_))
    · rw [if_pos (decide_eq_true (Or.inl y))] at h; exact h
    · rw [if_pos (decide_eq_true (Or.inr z))] at h; exact h
    · rw [if_neg (by rw [decide_eq_false (by omega)]; decide)] at h; exact h
  · rw [if_neg q, if_neg q2] at h
    refine br_c (fun y => ?_) (fun y => br_c (fun z => ?_) (fun z => ?_))
    · rw [if_pos (decide_eq_true (Or.inl y))] at h; exact h
    · rw [if_pos (decide_eq_true (Or.inr z))] at h; exact h
    · rw [if_neg (by rw [decide_eq_false (by omega)]; decide)] at h; exact h
theorem whC_le {tk : Nat} {T : Tok} : whC tk T ≤ 12 := by
  have g : ∀ (p : Prop) [Decidable p] (a b : Nat), a ≤ 12 → b ≤ 12 → (if p then a else b) ≤ 12 := fun p _ a b h1 h2 => by split <;> assumption
  unfold whC
  exact (g _ _ _ (by decide) (g _ _ _ (by decide) (g _ _ _ (by decide) (g _ _ _ (by decide) (g _ _ _ (by decide) (g _ _ _ (by decide) (g _ _ _ (by decide) (g _ _ _ (by decide) (g _ _ _ (by decide) (g _ _ _ (by decide) (g _ _ _ (by decide) (g _ _ _ (by decide) (by decide : (0:Nat) ≤ 12)))))))))))))
/-- the word of a part between two numbers -/
def ofC (tk lo hi : Nat) (T : Tok) : Nat := if lo < whC tk T ∧ whC tk T ≤ hi ∧ alw tk (whC tk T - 1) = true then whC tk T else 0
theorem r_wordOf {lo hi : Nat} {s0 s : sT} {b : Nat → Nat} {n tk o B d : Nat} {P : pT} {C W : List Nat} {Q : Int32 → sT → Prop} (hh : hi < 100) (hl : lo < 100) (R : RC s0 s b n tk P C W o B d) (h : ∀ s', RC s0 s' b n tk P C W o B d → RN s' b n P → Q (cV (ofC tk lo hi (tok b n P))) s') : c12_qWordOf (nI lo) (nI hi) Q s := by
  have hw := whC_le (tk := tk) (T := tok b n P)
  refine e_c12_qWordOf (r_wordHere R (fun s1 R1 N1 => ?_))
  have hq := h s1 R1 N1
  unfold ofC at hq
  rw [cV_lt (by omega) (by omega), cV_lt (by omega) (by omega)]
  refine br_c (fun q => ?_) (fun q => br_c (fun q2 => ?_) (fun q2 => ?_))
  · rw [if_neg (by omega), cV_0] at hq
    exact hq
  · obtain ⟨k, hk⟩ : ∃ k, whC tk (tok b n P) = k + 1 := ⟨whC tk (tok b n P) - 1, by omega⟩
    rw [hk, cV_s]
    rw [hk, Nat.add_sub_cancel] at hq
    refine r_allowed (by omega) R1 ?_
    cases z : alw tk k with
    | true =>
      rw [z, if_pos ⟨by omega, by omega, rfl⟩, cV_s] at hq
      rw [if_pos rfl]
      exact yes1 hq
    | false =>
      rw [z, if_neg (fun y => by cases y.2.2), cV_0] at hq
      rw [if_neg (by decide)]
      exact no0 hq
  · rw [if_neg (by omega), cV_0] at hq
    exact hq
