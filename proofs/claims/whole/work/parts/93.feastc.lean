def XG (a _ : Nat) : Bool := Nat.beq a 149 || Nat.beq a 154
theorem xg_f {a j : Nat} (h : a ≠ 149) (h2 : a ≠ 154) : XG a j = false := by
  unfold XG
  rw [Bool.eq_false_iff]
  intro q
  simp only [Bool.or_eq_true, Nat.beq_eq] at q
  omega
theorem w_mvC {x : Nat} {w : Nat → Nat} {d : Int32} {Q : sT → Prop} {s : sT} (w' : Nat → Nat) (hx : x < 2 ^ 24) (W : StW s 148 w) (h0 : ∀ n, ¬ (1 ≤ n ∧ n ≤ 24) → w' n = w n) (h1 : ∀ n, 1 ≤ n → n ≤ 24 → nI (w' n) = if x.testBit (n - 1) = true then nI (w n) + d else nI (w n)) (h : ∀ s', Fr (fun a _ => Nat.beq a 149) s s' → StW s' 148 w' → Q s') : c9_move 148 (nI x) d Q s := by
  refine w_move hx ?_
  generalize hu : wC s (148 + 1) (mvF x d 24 (rA s (148 + 1))) = u
  have r : ∀ a j, rI u a j = if a = 149 then mvF x d 24 (rA s 149) j else rI s a j := fun a j => by rw [← hu, rI_wC]
  refine h u (by rw [← hu]; exact fr_wC fr_rf (fun j => rfl)) ?_
  obtain ⟨a, b, c, e, f⟩ := W
  refine ⟨?_, ?_, fun n n1 n2 => ?_, fun p hp => ?_, fun p hp => ?_⟩
  · rw [r, if_neg (by omega), h0 0 (by omega)]; exact a
  · rw [r, if_pos rfl]
    unfold mvF
    rw [if_neg (by omega)]
    exact b
  · rw [r, if_pos rfl, h1 n n1 (by omega)]
    unfold mvF
    by_cases z : x.testBit (n - 1) = true
    · rw [if_pos ⟨n1, by omega, z⟩, if_pos z, rA_r, c n n1 n2]
    · rw [if_neg (fun y => z y.2.2), if_neg z, rA_r, c n n1 n2]
  · rw [r, if_neg (by omega), h0 _ (by omega)]; exact e p hp
  · rw [r, if_neg (by omega), h0 _ (by omega)]; exact f p hp
theorem w_mvC_1 {x : Nat} {w : Nat → Nat} {Q : sT → Prop} {s : sT} (hx : x < 2 ^ 24) (W : StW s 148 w) (hz : fz w x = true) (h : ∀ s', Fr (fun a _ => Nat.beq a 149) s s' → StW s' 148 (tkW x w) → Q s') : c9_move 148 (nI x) (-1 : Int32) Q s := by
  have hs := sB_iff.1 hz
  refine w_mvC (tkW x w) hx W (fun n q => ?_) (fun n n1 n2 => ?_) h
  · unfold tkW
    rw [if_neg (fun y => q ⟨y.1, y.2.1⟩)]
  · unfold tkW
    by_cases z : x.testBit (n - 1) = true
    · have := hs (n - 1) (by omega) z
      rw [show n - 1 + 1 = n by omega] at this
      rw [if_pos ⟨n1, n2, z⟩, if_pos z, nI_dec (of_decide_eq_true this)]
    · rw [if_neg (fun y => z y.2.2), if_neg z]
theorem w_mvC_2 {x : Nat} {w : Nat → Nat} {Q : sT → Prop} {s : sT} (hx : x < 2 ^ 24) (W : StW s 148 (tkW x w)) (hz : fz w x = true) (h : ∀ s', Fr (fun a _ => Nat.beq a 149) s s' → StW s' 148 w → Q s') : c9_move 148 (nI x) (1 : Int32) Q s := by
  refine w_mvC (plW x (tkW x w)) hx W (fun n q => ?_) (fun n n1 n2 => ?_) (fun s' g1 g2 => h s' g1 (by rw [pl_tk hz] at g2; exact g2))
  · unfold plW
    rw [if_neg (fun y => q ⟨y.1, y.2.1⟩)]
  · unfold plW
    by_cases z : x.testBit (n - 1) = true
    · rw [if_pos ⟨n1, n2, z⟩, if_pos z, nI_1]
    · rw [if_neg (fun y => z y.2.2), if_neg z]
theorem fz_iff {w : Nat → Nat} {x : Nat} (hx : x < 2 ^ 24) : (nI x &&& (nI (mB (fun i => decide (0 < w (i + 1))) 24) ^^^ (-1 : Int32))) = 0 ↔ fz w x = true := by
  rw [sub_0 (by omega)]
  unfold fz
  rw [sB_iff]
  refine ⟨fun h i hi hb => ?_, fun h i hb => ?_⟩
  · have := h i hb
    rw [mB_t, Bool.and_eq_true] at this
    exact this.2
  · have hi : i < 24 := by
      rcases Nat.lt_or_ge i 24 with q | q
      · exact q
      · rw [t_lt hx q] at hb; cases hb
    rw [mB_t, Bool.and_eq_true]
    exact ⟨decide_eq_true hi, h i hi hb⟩
theorem getD_at {l : List Nat} {k : Nat} (h : k < l.length) : l.getD k 0 = l[k] := by
  rw [List.getD_eq_getElem?_getD, List.getElem?_eq_getElem h]
  rfl
theorem xg_1 {a j : Nat} (h : (fun a _ => Nat.beq a 149 : Nat → Nat → Bool) a j = true) : XG a j = true := by
  unfold XG
  rw [show Nat.beq a 149 = true from h, Bool.true_or]
theorem w_seat {fin ppl bk : Nat} {L : Nat → List Nat} {lc : List Nat} {s0 : sT} (C : OCc s0 fin ppl bk L lc) : ∀ m n p wo w s (Q : Int32 → sT → Prop), p + m = ppl → m < n → wo ≤ m → Fr XG s0 s → StW s 148 w → (∀ k, w k ≤ 999) → (∀ s' r, Fr XG s0 s' → (∀ j, j < p → rI s' 154 j = rI s 154 j) → rowC s' 154 p r → (fRows L m p w).find? (cq (m - wo)) = some r → Q 1 s') → (∀ s', Fr XG s0 s' → StW s' 148 w → (∀ j, j < p → rI s' 154 j = rI s 154 j) → (fRows L m p w).find? (cq (m - wo)) = none → Q 0 s') → g5 n 0 0 (nI p) (nI wo) 0 Q s := by
  have o2 := C.2.1
  intro m
  induction m with
  | zero =>
    intro n p wo w s Q e hn hwo F W hw h1 h0
    obtain ⟨n, rfl⟩ : ∃ k, n = k + 1 := ⟨n - 1, by omega⟩
    have e : p = ppl := e
    subst e
    refine e_c5_seat (fun i j a b c Q Q' s => mo_g5 n i j a b c Q Q' s) (br_f (by rw [F.1 _ _ rfl, C.2.2.2.2.1]; exact nI_nlt (Nat.le_refl _) (by omega)) (h1 s [] F (fun _ _ => rfl) trivial ?_))
    show (fRows L 0 p w).find? (cq (0 - wo)) = some []
    rw [Nat.zero_sub]
    rfl
  | succ m ih =>
    intro n p wo w s Q e hn hwo F W hw h1 h0
    obtain ⟨n, rfl⟩ : ∃ k, n = k + 1 := ⟨n - 1, by omega⟩
    have hp : p < ppl := by omega
    refine e_c5_seat (fun i j a b c Q Q' s => mo_g5 n i j a b c Q Q' s) (br_t (by rw [F.1 _ _ rfl, C.2.2.2.2.1]; exact nI_lt hp (by omega)) ⟨vp_in_nI (by omega) (by decide), fun u hu => ?_⟩)
    rw [nI_clamp (by omega)] at hu
    have Fu0 : Fr (fun a _ => Nat.beq a 154) s u := by rw [hu]; exact fr_wI fr_rf rfl
    have Fu : Fr XG s0 u := fr_tr F (fr_mo Fu0 (fun a j q => by
      unfold XG
      rw [show Nat.beq a 154 = true from q, Bool.or_true]))
    have Wu : StW u 148 w := StW_fr Fu0 (fun a j q1 q2 => by
      rw [Bool.eq_false_iff]
      intro y
      have := Nat.beq_eq.mp y
      omega) W
    have hu154 : ∀ j, j < p → rI u 154 j = rI s 154 j := fun j hj => by rw [hu, rI_wI, if_neg (by omega)]
    have hup : rI u 154 p = cV 0 := by rw [hu, rI_wI, if_pos ⟨rfl, rfl⟩, cV_0]
    -- the writings
    have ways : ∀ s1, Fr XG s0 s1 → StW s1 148 w → (∀ j, j < p → rI s1 154 j = rI s 154 j) → wo ≤ m → (fRows L m (p + 1) w).find? (cq (m + 1 - wo)) = none → c9_inStock 148 (fun y4 u5 => vp_in (nI p) 6 ∧ (∀ x6 : Int32, x6 = (if (rI u5 33 (nI p).toNatClampNeg) < (8 : Int32) then (rI u5 33 (nI p).toNatClampNeg) else (8 : Int32)) → c5_seat_66 (g5 n) (nI p) (nI wo) y4 x6 (0 : Int32) Q u5)) s1 := by
      intro s1 F1 W1 G1 hwm hno
      have C1 : OCc s1 fin ppl bk L lc := OCc_fr F1 (fun a j h1 h2 h3 => xg_f (by omega) (by omega)) C
      obtain ⟨⟨c1, c2, c3, c4, c5⟩, -⟩ := C1.2.2.2.2.2.2.2 p hp
      refine w_inStock W1.2.2.1 (fun k => by have := hw k; omega) ⟨vp_in_nI (by omega) (by decide), fun x hx => ?_⟩
      rw [nI_clamp (by omega), c3, min_nI (c := (8 : Int32)) (b := 8) rfl (by omega) (by decide)] at hx
      have hx : x = nI (kpF (L p)) := hx
      rw [hx]
      have hK : kpF (L p) ≤ (L p).length ∧ kpF (L p) ≤ 8 := by unfold kpF; split <;> omega
      have hfr : fRows L (m + 1) p w = (fRows L m (p + 1) w).map (List.cons 0) ++ chR (fun k => if fz w ((L p).getD k 0) = true then (fRows L m (p + 1) (tkW ((L p).getD k 0) w)).map (List.cons (k + 1)) else []) (kpF (L p)) 0 := rfl
      have hf0 : (fRows L (m + 1) p w).find? (cq (m + 1 - wo)) = (chR (fun k => if fz w ((L p).getD k 0) = true then (fRows L m (p + 1) (tkW ((L p).getD k 0) w)).map (List.cons (k + 1)) else []) (kpF (L p)) 0).find? (cq (m + 1 - wo)) := by
        rw [hfr, List.find?_append, find_0, hno]
        rfl
      rw [hf0] at h1 h0
      have main : ∀ q k s2, k + q = kpF (L p) → Fr XG s0 s2 → StW s2 148 w → (∀ j, j < p → rI s2 154 j = rI s 154 j) → (∀ s' r, Fr XG s0 s' → (∀ j, j < p → rI s' 154 j = rI s 154 j) → rowC s' 154 p r → (chR (fun k => if fz w ((L p).getD k 0) = true then (fRows L m (p + 1) (tkW ((L p).getD k 0) w)).map (List.cons (k + 1)) else []) q k).find? (cq (m + 1 - wo)) = some r → Q 1 s') → (∀ s', Fr XG s0 s' → StW s' 148 w → (∀ j, j < p → rI s' 154 j = rI s 154 j) → (chR (fun k => if fz w ((L p).getD k 0) = true then (fRows L m (p + 1) (tkW ((L p).getD k 0) w)).map (List.cons (k + 1)) else []) q k).find? (cq (m + 1 - wo)) = none → Q 0 s') → c5_seat_66 (g5 n) (nI p) (nI wo) (nI (mB (fun i => decide (0 < w (i + 1))) 24)) (nI (kpF (L p))) (nI k) Q s2 := by
        intro q
        induction q with
        | zero =>
          intro k s2 e2 F2 W2 G2 g1 g0
          have e2 : k = kpF (L p) := e2
          rw [e2]
          exact e_c5_seat_66 (fun i j a b c Q Q' s => mo_g5 n i j a b c Q Q' s) (br_f (nI_nlt (Nat.le_refl _) (by omega)) (g0 s2 F2 W2 G2 rfl))
        | succ q iq =>
          intro k s2 e2 F2 W2 G2 g1 g0
          have hkl : k < (L p).length := by omega
          have hxk := (c5 _ (List.getElem_mem hkl)).2
          have W2c := (OCc_fr F2 (fun a j h1 h2 h3 => xg_f (by omega) (by omega)) C : OCc s2 fin ppl bk L lc).2.2.2.2.2.2.2 p hp
          have ex := getD_at hkl
          refine e_c5_seat_66 (fun i j a b c Q Q' s => mo_g5 n i j a b c Q Q' s) (br_t (nI_lt (by omega) (by omega)) (w_wayOf W2c.1 hkl ?_))
          rw [← ex] at hxk ⊢
          have ch : chR (fun k => if fz w ((L p).getD k 0) = true then (fRows L m (p + 1) (tkW ((L p).getD k 0) w)).map (List.cons (k + 1)) else []) (q + 1) k = (if fz w ((L p).getD k 0) = true then (fRows L m (p + 1) (tkW ((L p).getD k 0) w)).map (List.cons (k + 1)) else []) ++ chR (fun k => if fz w ((L p).getD k 0) = true then (fRows L m (p + 1) (tkW ((L p).getD k 0) w)).map (List.cons (k + 1)) else []) q (k + 1) := rfl
          rw [ch, List.find?_append] at g1 g0
          rw [fz_iff hxk]
          refine br_c (fun hz => ?_) (fun hz => ?_)
          · rw [if_pos hz, find_s] at g1 g0
            refine w_mvC_1 hxk W2 hz (fun s3 F3 W3 => ⟨vp_in_nI (by omega) (by decide), fun u4 hu4 => ?_⟩)
            rw [nI_clamp (by omega)] at hu4
            have Fu4 : Fr (fun a _ => Nat.beq a 154) s3 u4 := by rw [hu4]; exact fr_wI fr_rf rfl
            have F4 : Fr XG s0 u4 := fr_tr F2 (fr_tr (fr_mo F3 fun a j q => xg_1 q) (fr_mo Fu4 (fun a j q => by
              unfold XG
              rw [show Nat.beq a 154 = true from q, Bool.or_true])))
            have W4 : StW u4 148 (tkW ((L p).getD k 0) w) := StW_fr Fu4 (fun a j q1 q2 => by
              rw [Bool.eq_false_iff]
              intro y
              have := Nat.beq_eq.mp y
              omega) W3
            have G4 : ∀ j, j < p → rI u4 154 j = rI s 154 j := fun j hj => by rw [hu4, rI_wI, if_neg (by omega), F3.1 154 _ rfl]; exact G2 j hj
            have g4p : rI u4 154 p = cV (k + 1) := by rw [hu4, rI_wI, if_pos ⟨rfl, rfl⟩, cV_s]
            rw [nI_1]
            refine ih n (p + 1) wo (tkW ((L p).getD k 0) w) u4 _ (by omega) (by omega) hwm F4 W4 (fun j => Nat.le_trans tk_le (hw j)) (fun s5 r F5 G5 R5 e5 => yes1 ?_) (fun s5 F5 W5 G5 e5 => no0 ?_)
            · refine g1 s5 ((k + 1) :: r) F5 (fun j hj => by rw [G5 j (by omega)]; exact G4 j hj) ⟨by rw [G5 p (by omega)]; exact g4p, R5⟩ ?_
              rw [show m + 1 - wo - 1 = m - wo by omega, e5]
              rfl
            · rw [show m + 1 - wo - 1 = m - wo by omega, e5] at g1 g0
              refine w_mvC_2 hxk W5 hz (fun s6 F6 W6 => ?_)
              rw [nI_1]
              exact iq (k + 1) s6 (by omega) (fr_tr F5 (fr_mo F6 fun a j q => xg_1 q)) W6 (fun j hj => by rw [F6.1 154 _ rfl, G5 j (by omega)]; exact G4 j hj) g1 g0
          · rw [if_neg hz] at g1 g0
            rw [nI_1]
            exact iq (k + 1) s2 (by omega) F2 W2 G2 g1 g0
      exact main (kpF (L p)) 0 s1 (Nat.zero_add _) F1 W1 G1 h1 h0
    rcases Nat.eq_zero_or_pos wo with q | q
    · subst q
      refine br_f (by decide) (ways u Fu Wu hu154 (Nat.zero_le _) (find_no (fun r hr => ?_)))
      have := fRows_cnt hr
      omega
    · refine br_t (nI_lt (a := 0) q (by omega)) ?_
      rw [nI_1, show (1 : Int32) = nI 1 from rfl, pk_sub q]
      have ew : m - (wo - 1) = m + 1 - wo := by omega
      refine ih n (p + 1) (wo - 1) w u _ (by omega) (by omega) (by omega) Fu Wu hw (fun s5 r F5 G5 R5 e5 => yes1 ?_) (fun s5 F5 W5 G5 e5 => no0 ?_)
      · refine h1 s5 (0 :: r) F5 (fun j hj => by rw [G5 j (by omega)]; exact hu154 j hj) ⟨by rw [G5 p (by omega)]; exact hup, R5⟩ ?_
        unfold fRows
        rw [ew] at e5
        rw [List.find?_append, find_0, e5]
        rfl
      · rw [ew] at e5
        refine ways s5 F5 W5 (fun j hj => by rw [G5 j (by omega)]; exact hu154 j hj) ?_ e5
        rcases Nat.lt_or_ge m wo with y | y
        · obtain ⟨r, hr⟩ := fRows_ne (L := L) m (p + 1) w
          rw [show m + 1 - wo = 0 by omega] at e5
          have := List.find?_eq_none.1 e5 r hr
          exact absurd (decide_eq_true (Nat.zero_le _)) this
        · exact y
theorem w_mostS {fin ppl bk : Nat} {L : Nat → List Nat} {lc : List Nat} {w : Nat → Nat} {Q : Int32 → sT → Prop} {s : sT} (C : OCc s fin ppl bk L lc) (W : StW s 38 w) (hw : ∀ k, w k ≤ 999) (h : ∀ s' r, Fr (fun a j => Xk 148 a j || XG a j) s s' → rowC s' 154 0 r → r = ((fRows L ppl 0 w).foldl (upd2 0 []) (0, [])).2 → Q (nI (((fRows L ppl 0 w).foldl (upd2 0 []) (0, [])).1 - 1)) s') : c5_mostSeated Q s := by
  have o2 := C.2.1
  obtain ⟨r0, b1, b2, b3, b4, b5⟩ := fRows_best (L := L) (m := ppl) (p := 0) (w := w)
  rw [b5] at h
  refine e_c5_mostSeated (w_takeCourse (by omega) W (fun u Fu Wu => ?_))
  have Cu : OCc u fin ppl bk L lc := OCc_fr Fu (fun a j h1 h2 h3 => xk_f (by omega)) C
  have main : ∀ q wo s1, wo + q = ppl - cnt r0 → Fr XG u s1 → StW s1 148 w → c5_mostSeated_13 (nI wo) Q s1 := by
    intro q
    induction q with
    | zero =>
      intro wo s1 e F1 W1
      have e : wo = ppl - cnt r0 := e
      refine e_c5_mostSeated_13 (br_f (by rw [F1.1 _ _ rfl, Cu.2.2.2.2.1]; exact nI_nlt (by omega) (by omega)) (w_seat Cu ppl 8 0 wo w s1 _ (Nat.zero_add _) (by omega) (by omega) F1 W1 hw (fun s2 r F2 G2 R2 e2 => yes1 ?_) (fun s2 F2 W2 G2 e2 => no0 ?_)))
      · rw [show ppl - wo = cnt r0 by omega, b1] at e2
        have e2 : r0 = r := Option.some.inj e2
        rw [F2.1 _ _ rfl, Cu.2.2.2.2.1, pk_sub (by omega)]
        have := h s2 r (fr_tr (fr_mo Fu fun a j q => by simp only [q, Bool.true_or]) (fr_mo F2 fun a j q => by simp only [q, Bool.or_true])) R2 e2.symm
        rw [show ppl - wo = cnt r0 + 1 - 1 by omega]
        exact this
      · rw [show ppl - wo = cnt r0 by omega, b1] at e2
        cases e2
    | succ q ih =>
      intro wo s1 e F1 W1
      refine e_c5_mostSeated_13 (br_f (by rw [F1.1 _ _ rfl, Cu.2.2.2.2.1]; exact nI_nlt (by omega) (by omega)) (w_seat Cu ppl 8 0 wo w s1 _ (Nat.zero_add _) (by omega) (by omega) F1 W1 hw (fun s2 r F2 G2 R2 e2 => ?_) (fun s2 F2 W2 G2 e2 => no0 ?_)))
      · have hm := List.mem_of_find?_eq_some e2
        have h1 := b4 r hm
        have h3 : cq (ppl - wo) r = true := List.find?_some e2
        have h2 : ppl - wo ≤ cnt r := of_decide_eq_true h3
        omega
      · rw [nI_1]
        exact ih (wo + 1) s2 (by omega) F2 W2
  exact main (ppl - cnt r0) 0 u (Nat.zero_add _) fr_rf Wu
