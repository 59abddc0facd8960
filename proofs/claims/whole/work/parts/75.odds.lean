def obW (w : Nat → Nat) (n : Nat) : Nat → Nat := if n = 0 ∨ w n = 0 then w else uN w n (w n - 1)
/-- is one served at the next day when a piece of a size went -/
def ob (L : Nat → List Nat) (lc : List Nat) (ppl bk p : Nat) (w : Nat → Nat) (n : Nat) : Nat := if (dayF L lc ppl bk (obW w n) (0, fun _ _ => 0)).2.2.testBit p = true then 1 else 0
def odF (L : Nat → List Nat) (lc : List Nat) (fin ppl bk mi p : Nat) (w : Nat → Nat) : Nat → Nat → Nat → Nat
  | 0, _, a => a
  | m + 1, i, a => odF L lc fin ppl bk mi p w m (i + 1) (a + (if i = 0 then (100 - mi) * fin else mi) * ob L lc ppl bk p w i)
theorem obW_V {fin ppl n : Nat} {w : Nat → Nat} (h : wV fin ppl w) (h24 : fin ≤ 24) (hn : n ≤ fin) : wV fin ppl (obW w n) := by
  unfold obW
  split
  · exact h
  · have := h.1 n
    exact uN_V h hn h24 (by omega)
theorem obW_0 {w : Nat → Nat} {n : Nat} : obW w n 0 = w 0 := by
  unfold obW
  split
  · rfl
  · rw [uN_ne (by omega)]
theorem odF_0 {L : Nat → List Nat} {lc : List Nat} {fin ppl bk p : Nat} {w : Nat → Nat} : ∀ m i a, 1 ≤ i → odF L lc fin ppl bk 0 p w m i a = a
  | 0, _, _, _ => rfl
  | m + 1, i, a, h => by
    unfold odF
    rw [if_neg (by omega), Nat.zero_mul, Nat.add_zero]
    exact odF_0 m (i + 1) a (by omega)
theorem bit_ob {F p : Nat} (hF : F < 2 ^ 6) (hp : p < 6) : ((nI F >>> (nI p &&& 31)) &&& (1 : Int32)) = nI (if F.testBit p = true then 1 else 0) := by
  by_cases h : F.testBit p = true
  · rw [if_pos h]
    exact (bit_1 (by omega) (by omega)).2 h
  · rw [if_neg h]
    exact (bit_0 (by omega) (by omega)).2 (Bool.eq_false_iff.2 h)
def K148 (s : sT) : Prop := ∃ κ, KpC s 148 κ
theorem K148_k {s u : sT} (F : Fr (Xk 148) s u) (K : K148 s) : K148 u := by
  obtain ⟨κ', a, b, f, c, d, e⟩ := K
  exact ⟨κ', by rw [F.1 _ _ (xk_f (by omega))]; exact a, b, f, c, by rw [F.1 _ _ (xk_f (by omega))]; exact d, fun k hk j hj => by rw [F.1 _ _ (xk_f (by omega))]; exact e k hk j hj⟩
theorem w_swC {fin ppl bk p n : Nat} {L : Nat → List Nat} {lc : List Nat} {w : Nat → Nat} {Q : Int32 → sT → Prop} {s0 s : sT} (C : OCc s0 fin ppl bk L lc) (W : StW s0 38 w) (hV : wV fin ppl w) (h0 : w 0 ≤ 998) (hp : p < 6) (hn : n ≤ fin) (F : Fr (Xd 148) s0 s) (K : K148 s) (h : ∀ s', Fr (Xd 148) s0 s' → K148 s' → Q (nI (ob L lc ppl bk p w n)) s') : c5_servedWithout (nI n) (nI p) Q s := by
  have h24 := C.1
  have hVo := obW_V (n := n) hV h24 hn
  have h0o := obW_0 (w := w) (n := n)
  have W1 : StW s 38 w := StW_fr F (fun a j x y => xd_f (by omega) (by omega) (by omega)) W
  refine e_c5_servedWithout (w_takeCourse (by omega) W1 (fun u Fu Wu => ?_))
  have Fu' : Fr (Xd 148) s0 u := fr_tr F (fr_mo Fu (fun a j q => xd_s (xs_t (by
      unfold Xk at q
      simp only [Bool.or_eq_true, Bool.and_eq_true, Nat.beq_eq] at q
      omega))))
  have Ku := K148_k Fu K
  have go : ∀ (v : sT), Fr (Xd 148) s0 v → StW v 148 (obW w n) → K148 v → c0_passDay 148 (fun y4 u5 => Q ((y4 >>> (nI p &&& 31)) &&& (1 : Int32)) u5) v := fun v Fv Wv Kv => by
    obtain ⟨κ, Kv⟩ := Kv
    refine w_passDay (Or.inr rfl) (OCc_d (Or.inr rfl) Fv C) Wv Kv (wV_M hVo) (by omega) (fun v2 g1 g2 g3 => ?_)
    have sim := dayF_sim (L := L) (lc := lc) (ppl := ppl) (bk := bk) (w := obW w n) (κ := κ) (κ' := (0, fun _ _ => 0))
    have hw6 := dayF_w (L := L) (lc := lc) (ppl := ppl) (bk := bk) (w := obW w n) (κ := κ) C.2.1
    rw [bit_ob hw6 hp, sim.2]
    exact h v2 (fr_tr Fv g1) ⟨_, g3⟩
  have hw := hV.1 n
  rcases Nat.eq_zero_or_pos n with q | q
  · subst q
    refine e_c9_lose (br_t (by decide) (go u Fu' ?_ Ku))
    unfold obW
    rw [if_pos (Or.inl rfl)]
    exact Wu
  · refine e_c9_lose (br_f (nI_nlt (b := 1) q (by omega)) (br_f (nI_nlt (a := 24) (by omega) (by decide)) ⟨vp_in_nI (by omega) (by decide), ?_⟩))
    rw [nI_clamp (by omega), Wu.2.2.1 _ (by omega) (by omega), show (1 : Int32) = nI 1 from rfl, nI_ltI (by omega) (by decide)]
    refine br_c (fun q2 => go u Fu' ?_ Ku) (fun q2 => ⟨vp_in_nI (by omega) (by decide), vp_in_nI (by omega) (by decide), fun u1 hu1 => ?_⟩)
    · unfold obW
      rw [if_pos (Or.inr (by omega))]
      exact Wu
    · rw [pk_sub (by omega)] at hu1
      have F1 : Fr (fun a j => Nat.beq a 149 && Nat.ble 1 j) u u1 := by
        rw [hu1]
        refine fr_wI fr_rf ?_
        rw [Bool.and_eq_true, Nat.ble_eq]
        exact ⟨rfl, q⟩
      refine go u1 (fr_tr Fu' (fr_mo F1 (fun a j q => ?_))) ?_ ?_
      · simp only [Bool.and_eq_true, Nat.beq_eq, Nat.ble_eq] at q
        exact xd_s (xs_t (by omega))
      · unfold obW
        rw [if_neg (by omega)]
        obtain ⟨a, b, c, d, f⟩ := Wu
        refine ⟨?_, ?_, fun k x y => ?_, fun p hp => ?_, fun p hp => ?_⟩
        · rw [hu1, rI_wI, if_neg (by omega), uN_ne (by omega)]; exact a
        · rw [hu1, rI_wI, if_neg (by omega)]; exact b
        · rw [hu1, rI_wI]
          by_cases z : k = n
          · rw [if_pos ⟨rfl, z⟩, z, uN_eq]
          · rw [if_neg (fun y => z y.2), uN_ne z]; exact c k x y
        · rw [hu1, rI_wI, if_neg (by omega), uN_ne (by omega)]; exact d p hp
        · rw [hu1, rI_wI, if_neg (by omega), uN_ne (by omega)]; exact f p hp
      · exact k148_fr F1 (fun a j z => by rcases z with rfl | rfl <;> rfl) Ku
theorem w_odC {fin ppl bk mi p : Nat} {L : Nat → List Nat} {lc : List Nat} {w : Nat → Nat} {Q : Int32 → sT → Prop} {s0 : sT} (C : OCc s0 fin ppl bk L lc) (hM : rI s0 21 4 = nI mi) (hmi : mi ≤ 100) (W : StW s0 38 w) (hV : wV fin ppl w) (h0 : w 0 ≤ 998) (hp : p < 6) : ∀ m i a s, i + m = fin + 1 → 1 ≤ i → Fr (Xd 148) s0 s → K148 s → (∀ s', Fr (Xd 148) s0 s' → K148 s' → Q (nI (odF L lc fin ppl bk mi p w m i a)) s') → c5_oddsOf_31 (nI p) (nI (ob L lc ppl bk p w 0)) (nI a) (nI i) Q s
  | 0, i, a, s, e, h1, F, K, h => by
    have h24 := C.1
    exact e_c5_oddsOf_31 (br_t (by rw [F.1 _ _ rfl, C.2.2.2.1]; exact nI_lt (by omega) (by omega)) (h s F K))
  | m + 1, i, a, s, e, h1, F, K, h => by
    have h24 := C.1
    have hw := hV.1 i
    refine e_c5_oddsOf_31 (br_f (by rw [F.1 _ _ rfl, C.2.2.2.1]; exact nI_nlt (by omega) (by omega)) ?_)
    have e4 : rI s 21 4 = nI mi := by rw [F.1 _ _ rfl]; exact hM
    rw [e4]
    by_cases q : 0 < mi
    · unfold odF at h
      rw [if_neg (by omega)] at h
      refine br_t (nI_lt (a := 0) q (by omega)) ⟨vp_in_nI (by omega) (by decide), ?_⟩
      rw [nI_clamp (by omega), show rI s 39 i = nI (w i) by rw [F.1 _ _ (xd_f (by omega) (by omega) (by omega))]; exact W.2.2.1 i h1 (by omega)]
      by_cases q2 : 0 < w i
      · refine br_t (nI_lt (a := 0) q2 (by omega)) (w_swC C W hV h0 hp (by omega) F K (fun s1 F1 K1 x hx => ?_))
        rw [pk_mul, nI_add] at hx
        rw [hx, nI_1]
        exact w_odC C hM hmi W hV h0 hp m (i + 1) _ s1 (by omega) (by omega) F1 K1 h
      · refine br_f (nI_nlt (a := 0) (by omega) (by decide)) (fun x hx => ?_)
        have eo : ob L lc ppl bk p w i = ob L lc ppl bk p w 0 := by
          unfold ob obW
          rw [if_pos (Or.inr (by omega)), if_pos (Or.inl rfl)]
        rw [eo] at h
        rw [pk_mul, nI_add] at hx
        rw [hx, nI_1]
        exact w_odC C hM hmi W hV h0 hp m (i + 1) _ s (by omega) (by omega) F K h
    · have e0 : mi = 0 := by omega
      subst e0
      rw [odF_0 _ _ _ h1] at h
      exact br_f (by decide) (h s F K)
theorem w_odR {fin ppl bk mi p : Nat} {L : Nat → List Nat} {lc : List Nat} {w : Nat → Nat} {Q : Int32 → sT → Prop} {s0 : sT} (C : OCr s0 fin ppl bk L lc) (hM : rI s0 193 9 = nI mi) (hmi : mi ≤ 100) (ht : rI s0 162 64 = 1) (A : asW s0 w) (hV : wV fin ppl w) (h0 : w 0 ≤ 998) (hp : p < 6) : ∀ m i a s, i + m = fin + 1 → Fr Xq s0 s → NwW s w → (∀ j, 37 ≤ j → rI s 200 j = rI s0 200 j) → (∀ s', Fr Xz s0 s' → NwW s' w → rI s' 162 64 = 0 → (∀ j, 37 ≤ j → rI s' 200 j = rI s0 200 j) → (∀ a j, a = 148 ∨ a = 152 → rI s' a j = rI s0 a j) → Q (nI (odF L lc fin ppl bk mi p w m i a)) s') → c12_odds_46 (nI p) (nI a) (nI i) Q s
  | 0, i, a, s, e, F, N, T, h => by
    have h24 := C.1
    refine e_c12_odds_46 (e_c12_finest (br_t (by rw [F.1 _ _ rfl, C.2.2.2.1]; exact nI_lt (by omega) (by omega)) ?_))
    refine w_takesBack (fun k hk => by rw [F.1 _ _ (xq_f (by omega) (by omega) (by omega))]; exact A k hk) (fun s2 F2 N2 t2 => h s2 (fr_tr (fr_mo F fun a j q => xz_q q) (fr_mo F2 fun a j q => xz_n q)) N2 t2 (fun j hj => ?_) (fun a j hj => ?_))
    · rw [F2.1 _ _ ?_, T j hj]
      rw [Bool.eq_false_iff]
      intro z
      unfold Xn at z
      simp only [Bool.or_eq_true, Bool.and_eq_true, Nat.beq_eq, Nat.ble_eq] at z
      omega
    · have e1 : rI s2 a j = rI s a j := F2.1 _ _ (by rcases hj with rfl | rfl <;> rfl)
      have e2 : rI s a j = rI s0 a j := F.1 _ _ (by rcases hj with rfl | rfl <;> rfl)
      rw [e1, e2]
  | m + 1, i, a, s, e, F, N, T, h => by
    have h24 := C.1
    have hw := hV.1 i
    have hVo := obW_V (n := i) hV h24 (by omega)
    have h0o := obW_0 (w := w) (n := i)
    unfold odF at h
    refine e_c12_odds_46 (e_c12_finest (br_f (by rw [F.1 _ _ rfl, C.2.2.2.1]; exact nI_nlt (by omega) (by omega)) ?_))
    have next : ∀ (x : Int32) (v : sT), x = nI (a + (if i = 0 then (100 - mi) * fin else mi) * ob L lc ppl bk p w i) → Fr Xq s0 v → (∀ j, 37 ≤ j → rI v 200 j = rI s0 200 j) → c12_triesAnew (fun u5 => c12_odds_46 (nI p) x (nI i + (1 : Int32)) Q u5) v := fun x v hx Fv Tv => by
      refine w_triesAnew (fun k hk => by rw [Fv.1 _ _ (xq_f (by omega) (by omega) (by omega))]; exact A k hk) (fun v2 F2 N2 => ?_)
      rw [hx, nI_1]
      have F2' : Fr Xq v v2 := fr_mo F2 (fun a j q => by
        unfold Xn at q
        simp only [Bool.and_eq_true, Nat.beq_eq] at q
        rw [q.1]
        rfl)
      refine w_odR C hM hmi ht A hV h0 hp m (i + 1) _ v2 (by omega) (fr_tr Fv F2') N2 (fun j hj => ?_) h
      rw [F2.1 _ _ ?_]
      · exact Tv j hj
      · unfold Xn
        rw [Bool.eq_false_iff]
        intro z
        simp only [Bool.and_eq_true, Nat.beq_eq, Nat.ble_eq] at z
        omega
    have day : ∀ (v : sT), Fr Xq s0 v → NwW v (obW w i) → (∀ j, 37 ≤ j → rI v 200 j = rI s0 200 j) → c12_odds_64 (nI p) (nI a) (nI i) Q (fun v1 v2 v3 s => c12_odds_46 v1 v2 v3 Q s) v := fun v Fv Nv Tv => by
      refine e_c12_odds_64 (w_dayGoes (κ := (0, fun _ _ => 0)) (th := true) C (by rw [ht]; rfl) Fv Nv ⟨fun _ => Tv, fun q => by cases q⟩ (wV_M hVo) (fun u g1 g2 g3 g4 g5 => ?_))
      have hw6 := dayF_w (L := L) (lc := lc) (ppl := ppl) (bk := bk) (w := obW w i) (κ := (0, fun _ _ => 0)) C.2.1
      rw [g4, bit_1 (by omega) (by omega)]
      refine br_c (fun q => ?_) (fun q => next _ u ?_ g1 (g3.1 rfl))
      · have eo : ob L lc ppl bk p w i = 1 := by
          unfold ob
          rw [if_pos q]
        have hz0 : nI i = (0 : Int32) ↔ i = 0 := by
          rw [show (0 : Int32) = nI 0 from rfl]
          exact nI_eq (by omega) (by decide)
        rw [hz0]
        refine br_c (fun q2 => e_c12_finest (fun x hx => next _ _ ?_ g1 (g3.1 rfl))) (fun q2 x hx => next _ u ?_ g1 (g3.1 rfl))
        · rw [hx, eo, if_pos q2, Nat.mul_one, g1.1 193 9 rfl, hM, g1.1 193 5 rfl, C.2.2.2.1, show (100 : Int32) = nI 100 from rfl, pk_sub hmi, pk_mul, nI_add]
        · rw [hx, eo, if_neg q2, Nat.mul_one, g1.1 193 9 rfl, hM, nI_add]
      · have eo : ob L lc ppl bk p w i = 0 := by
          unfold ob
          rw [if_neg q]
        rw [eo, Nat.mul_zero, Nat.add_zero]
    rcases Nat.eq_zero_or_pos i with q | q
    · refine br_f (by rw [q]; decide) (day s F ?_ T)
      unfold obW
      rw [if_pos (Or.inl q)]
      exact N
    · refine br_t (nI_lt (a := 0) q (by omega)) (e_c12_isGone ⟨vp_in_nI (by omega) (by decide), ?_⟩)
      have hz0 : nI (w i) = (0 : Int32) ↔ w i = 0 := by
        rw [show (0 : Int32) = nI 0 from rfl]
        exact nI_eq (by omega) (by decide)
      rw [nI_clamp (by omega), N _ (by omega), hz0]
      refine br_c (fun q2 => day s F ?_ T) (fun q2 => ⟨vp_in_nI (by omega) (by decide), vp_in_nI (by omega) (by decide), fun u1 hu1 => ?_⟩)
      · unfold obW
        rw [if_pos (Or.inr q2)]
        exact N
      · rw [show (1 : Int32) = nI 1 from rfl, pk_sub (by omega)] at hu1
        refine day u1 (fr_tr F (by rw [hu1]; exact fr_wI fr_rf rfl)) ?_ (fun j hj => by rw [hu1, rI_wI, if_neg (by omega)]; exact T j hj)
        unfold obW
        rw [if_neg (by omega)]
        exact NwW_1 N hu1
theorem op_odds {s : sT} (v : Int32) (I : Inv s) : two Inv (c11_odds v) (c12_odds v) s := by
  obtain ⟨fin, most, ppl, bk, mi, L, lc, cc, w, κ, I⟩ := I
  obtain ⟨-, io, ⟨n1, n2, n3, n4, n5, n6, n7⟩, -⟩ := id I
  obtain ⟨-, -, -, hmi, -, eMi, eMr, OC, OR, -⟩ := id io
  have hd0 := n3.1 0
  have h24 := OC.1
  have o2 := OC.2.1
  have II := IA_Inv I
  have no13 : (fin = 0 ∨ ¬ w 0 ≤ 998) → c12_odds_13 v (fun r2 s2 => -1 = r2 ∧ Inv s2) s := fun z => by
    refine e_c12_odds_13 (ahR_f (v := 1) (lo := 1) (hi := 1) (n2 0 (by omega)) hd0 (by decide) (by decide) ?_ (no0 ⟨rfl, II⟩))
    rcases z with z | z
    · exact Or.inl (IO_not io z).2.2
    · refine Or.inr ?_
      rintro ⟨n, a, b, c, -⟩
      omega
  have noR : (fin = 0 ∨ ¬ w 0 ≤ 998) → c12_odds v (fun r2 s2 => -1 = r2 ∧ Inv s2) s := fun z => by
    refine e_c12_odds (br_c (fun _ => no13 z) (fun _ => ?_))
    by_cases h : ∃ p, p < ppl ∧ v = nI p
    · obtain ⟨p, hp, rfl⟩ := h
      exact perR_t OR.2.2.2.2.1 o2 hp (yes1 (no13 z))
    · exact perR_f OR.2.2.2.2.1 o2 h (no0 ⟨rfl, II⟩)
  by_cases hf : fin = 0
  · subst hf
    exact e_c11_odds (offC_f OC.2.2.2.1 (no0 (noR (Or.inl rfl))))
  refine e_c11_odds (offC_t OC.2.2.2.1 h24 (by omega) (yes1 ?_))
  by_cases h9 : w 0 ≤ 998
  · have ht := (IO_told io (by omega)).2.1
    refine br_t (by rw [n1.1]; exact nI_lt (b := 999) (by omega) (by decide)) (br_c (fun q => ?_) (fun q => ?_))
    · rw [OC.2.2.2.1]
      refine e_c12_odds (br_t q (e_c12_odds_13 (ahR_t (n := 1) (lo := 1) (hi := 1) ht (n2 0 (by omega)) (by decide) (by decide) (by decide) (by omega) (yes1 (br_t q (e_c12_finest ?_))))))
      rw [OR.2.2.2.1]
      exact ⟨rfl, II⟩
    · by_cases h : ∃ p, p < ppl ∧ v = nI p
      · obtain ⟨p, hp, rfl⟩ := h
        refine perC_t OC.2.2.2.2.1 o2 hp (yes1 (e_c5_oddsOf (w_swC (n := 0) OC n1 n3 h9 (by omega) (Nat.zero_le _) fr_rf n7 (fun s1 F1 K1 x hx => ?_))))
        rw [F1.1 21 4 rfl, eMi, F1.1 21 0 rfl, OC.2.2.2.1, show (100 : Int32) = nI 100 from rfl, pk_sub hmi, pk_mul, pk_mul] at hx
        rw [hx]
        refine w_odC OC eMi hmi n1 n3 h9 (by omega) fin 1 _ s1 (by omega) (by decide) F1 K1 (fun s2 F2 K2 => ?_)
        have r2 : ∀ a j, a ≠ 31 → a ≠ 146 → (a < 148 ∨ 152 < a) → rI s2 a j = rI s a j := fun a j p q r => F2.1 _ _ (xd_f (by omega) q p)
        have N2 : NwW s2 w := fun k hk => by rw [r2 _ _ (by omega) (by omega) (by omega)]; exact n2 k hk
        refine e_c12_odds (br_f q (perR_t (by rw [r2 _ _ (by omega) (by omega) (by omega)]; exact OR.2.2.2.2.1) o2 hp (yes1 (e_c12_odds_13 (ahR_t (n := 1) (lo := 1) (hi := 1) (by rw [r2 _ _ (by omega) (by omega) (by omega)]; exact ht) (N2 0 (by omega)) (by decide) (by decide) (by decide) (by omega) (yes1 (br_f q (w_putsAside N2 (fun s3 F3 A3 t3 => ?_)))))))))
        have OR3 : OCr s3 fin ppl bk L lc := OCr_fr F3 (fun a j q => by rcases q with rfl | rfl | rfl | rfl | rfl | rfl <;> rfl) (OCr_fr F2 (fun a j q => xd_f (by omega) (by omega) (by omega)) OR)
        refine w_odR (mi := mi) OR3 (by rw [F3.1 _ _ rfl, r2 _ _ (by omega) (by omega) (by omega)]; exact eMr) hmi t3 A3 n3 h9 (by omega) (fin + 1) 0 0 s3 (by omega) fr_rf (NwW_fr F3 (fun _ _ => rfl) N2) (fun _ _ => rfl) (fun s4 F4 N4 t4 g4 k4 => ⟨?_, ?_⟩)
        · have e : odF L lc fin ppl bk mi p w (fin + 1) 0 0 = odF L lc fin ppl bk mi p w fin 1 (0 + (100 - mi) * fin * ob L lc ppl bk p w 0) := rfl
          rw [e, Nat.zero_add, Nat.mul_comm _ (ob L lc ppl bk p w 0), Nat.mul_assoc]
        · refine IA_Inv (IA_z I (fr_tr (fr_mo F2 fun a j q => xz_d q) (fr_tr (fr_mo F3 fun a j q => xz_a q) F4)) N4 (fun j hj => ?_) t4 ?_)
          · rw [g4 j hj, F3.1 _ _ rfl, r2 _ _ (by omega) (by omega) (by omega)]
          · obtain ⟨κ', a, b, f, c, d, e⟩ := K2
            have rr : ∀ a j, (a = 148 ∨ a = 152) → rI s4 a j = rI s2 a j := fun a j q => by
              rw [k4 a j q]
              exact F3.1 _ _ (by rcases q with rfl | rfl <;> rfl)
            exact ⟨κ', by rw [rr _ _ (by omega)]; exact a, b, f, c, by rw [rr _ _ (by omega)]; exact d, fun k hk j hj => by rw [rr _ _ (by omega)]; exact e k hk j hj⟩
      · exact perC_f OC.2.2.2.2.1 o2 h (no0 (e_c12_odds (br_f q (perR_f OR.2.2.2.2.1 o2 h (no0 ⟨rfl, II⟩)))))
  · exact br_f (by rw [n1.1]; exact nI_nlt (b := 999) (by omega) (by omega)) (noR (Or.inr h9))
