theorem isWay_2 {p : Nat} {v : Int32} {L : List Nat} {Q : Int32 → sT → Prop} {s : sT} (W : wayC s p L) : ∀ (r : List Nat) (k : Nat), L.drop k = r → k ≤ L.length → ((∃ x, x ∈ r ∧ v = nI x) → Q 1 s) → ((¬ ∃ x, x ∈ r ∧ v = nI x) → Q 0 s) → c7_isWayOf_2 (nI p) v (nI k) Q s
  | [], k, e, hk, h1, h0 => by
    have := drop_nil e hk
    have w2 := W.2.1
    refine e_c7_isWayOf_2 ⟨vp_in_nI W.1 (by decide), br_f ?_ (h0 (fun ⟨x, a, _⟩ => by cases a))⟩
    rw [nI_clamp (by have := W.1; omega), W.2.2.1]
    exact nI_nlt (by omega) (by omega)
  | x :: r, k, e, hk, h1, h0 => by
    obtain ⟨g1, g2, g3⟩ := drop_ix e
    have w2 := W.2.1
    refine e_c7_isWayOf_2 ⟨vp_in_nI W.1 (by decide), br_t ?_ (w_wayOf W g1 ?_)⟩
    · rw [nI_clamp (by have := W.1; omega), W.2.2.1]
      exact nI_lt g1 (by omega)
    · rw [g2, nI_1]
      refine br_c (fun q => h1 ⟨x, List.mem_cons_self, q.symm⟩) (fun q => isWay_2 W r (k + 1) g3 g1 (fun ⟨y, a, b⟩ => h1 ⟨y, List.mem_cons_of_mem _ a, b⟩) (fun n => h0 (fun ⟨y, a, b⟩ => ?_)))
      rcases List.mem_cons.1 a with z | z
      · subst z; exact q b.symm
      · exact n ⟨y, z, b⟩
theorem isWri_2 {p : Nat} {v : Int32} {L : List Nat} {Q : Int32 → sT → Prop} {s : sT} (W : wayR s p L) : ∀ (r : List Nat) (k : Nat), L.drop k = r → k ≤ L.length → ((∃ x, x ∈ r ∧ v = nI x) → Q 1 s) → ((¬ ∃ x, x ∈ r ∧ v = nI x) → Q 0 s) → c12_isWriting_2 (nI p) v (nI k) Q s
  | [], k, e, hk, h1, h0 => by
    have := drop_nil e hk
    have w2 := W.2.1
    refine e_c12_isWriting_2 ⟨vp_in_nI W.1 (by decide), br_f ?_ (h0 (fun ⟨x, a, _⟩ => by cases a))⟩
    rw [nI_clamp (by have := W.1; omega), W.2.2.1]
    exact nI_nlt (by omega) (by omega)
  | x :: r, k, e, hk, h1, h0 => by
    obtain ⟨g1, g2, g3⟩ := drop_ix e
    have w2 := W.2.1
    have wp := W.1
    have e4 : (2000 : Int32) * nI p + nI k = nI (2000 * p + k) := by rw [show (2000 : Int32) = nI 2000 from rfl, pk_mul, nI_add]
    refine e_c12_isWriting_2 ⟨vp_in_nI W.1 (by decide), br_t ?_ ?_⟩
    · rw [nI_clamp (by omega), W.2.2.1]
      exact nI_lt g1 (by omega)
    · rw [e4, nI_clamp (by omega), W.2.2.2.1 k g1, g2, nI_1]
      refine ⟨vp_in_nI (by omega) (by decide), br_c (fun q => h1 ⟨x, List.mem_cons_self, q.symm⟩) (fun q => isWri_2 W r (k + 1) g3 g1 (fun ⟨y, a, b⟩ => h1 ⟨y, List.mem_cons_of_mem _ a, b⟩) (fun n => h0 (fun ⟨y, a, b⟩ => ?_)))⟩
      rcases List.mem_cons.1 a with z | z
      · subst z; exact q b.symm
      · exact n ⟨y, z, b⟩
theorem bS_of {w : Nat → Nat} {x : Nat} (hx : x < 2 ^ 24) : sB x (bitS (mB (fun i => decide (0 < w (i + 1))) 24)) = sB x (fun n => decide (0 < w n)) := sB_cong (fun n h1 h2 _ => by
  unfold bitS
  rw [mB_t, show n - 1 + 1 = n by omega]
  simp
  omega)
theorem op_serve {s : sT} (v y : Int32) (I : Inv s) : two Inv (c11_serve v y) (c12_serve v y) s := by
  obtain ⟨fin, most, ppl, bk, mi, L, lc, cc, w, κ, I⟩ := I
  have I2 := I
  obtain ⟨⟨-, -, -, -, -, cS⟩, io, ⟨n1, n2, n3, n4, n5, n6, n7⟩, ih, -⟩ := I2
  have io2 := io
  obtain ⟨-, -, -, -, -, -, -, OC, OR, -⟩ := io2
  have h24 := OC.1
  have hM := wV_M n3
  have hw := wM_B hM
  have hw31 : ∀ n, w n < 2 ^ 31 := fun n => by have := hw n; omega
  -- what a refusal needs of the reference
  have r1 : ∀ a j, a ≠ 1 → rI (wI s 1 2 (rI s 1 2 + 1)) a j = rI s a j := fun a j q => by rw [rI_wI, if_neg (by omega)]
  have hb : c12_isRefused (nI 2) (fun y9 u10 => (y9 = 0 ∨ y9 = 1) ∧ ((0 : Int32) = y9 ∧ Inv u10)) (wI s 1 2 (rI s 1 2 + 1)) := refB (k := 2) (by decide) ⟨nil01, rfl, Inv_bump (IA_Inv I)⟩
  have F1 : Fr XR s (wI s 1 2 (rI s 1 2 + 1)) := fr_wI fr_rf rfl
  by_cases hp : ∃ p, p < ppl ∧ v = nI p
  · obtain ⟨p, hp, rfl⟩ := hp
    obtain ⟨cw, cx⟩ := OC.2.2.2.2.2.2.2 p hp
    obtain ⟨rw_, -⟩ := OR.2.2.2.2.2.2.2 p hp
    have hp6 := cw.1
    have rw1 : wayR (wI s 1 2 (rI s 1 2 + 1)) p (L p) := wayR_fr F1 (fun a j h1 h2 => by unfold XR; rw [Bool.eq_false_iff]; intro z; simp only [Bool.or_eq_true, Nat.beq_eq] at z; omega) rw_
    have per1 : ∀ {Q : Int32 → sT → Prop}, Q 1 (wI s 1 2 (rI s 1 2 + 1)) → c12_isPerson (nI p) Q (wI s 1 2 (rI s 1 2 + 1)) := fun q => perR_t (by rw [r1 _ _ (by omega)]; exact OR.2.2.2.2.1) OC.2.1 hp q
    refine e_c11_serve (perC_t OC.2.2.2.2.1 OC.2.1 hp (yes1 (e_c7_isWayOf (isWay_2 cw (L p) 0 rfl (Nat.zero_le _) (fun hx => yes1 ?_) (fun hx => no0 (refC (k := 2) (by decide) (e_c12_serve (per1 (yes1 (e_c12_isWriting (isWri_2 rw1 (L p) 0 rfl (Nat.zero_le _) (fun z => absurd z hx) (fun _ => no0 hb))))))))))))
    obtain ⟨x, hxm, rfl⟩ := hx
    have hx24 := (cw.2.2.2.2 x hxm).2
    refine e_c9_holds (w_inStock n1.2.2.1 hw31 ?_)
    rw [sub_B hx24, bS_of hx24]
    by_cases hs : sB x (fun n => decide (0 < w n)) = true
    · refine br_t hs (yes1 (w_keepC ih n1 n4 (fun s1 F1 H1 => ?_)))
      refine w_hand hp6 hx24 (StW_fr F1 (fun a j p q => xhC_f (by omega)) n1) (KpC_fr F1 (fun a j q => xhC_f (by omega)) n4) hw hs (fun s2 F2 W2 K2 => ?_)
      have r2 : ∀ a j, ¬ (38 ≤ a ∧ a ≤ 144) → rI s2 a j = rI s a j := fun a j p => by rw [F2.1 _ _ (xs_f (by omega)), F1.1 _ _ (xhC_f (by omega))]
      have N2 : NwW s2 w := fun k hk => by rw [r2 _ _ (by omega)]; exact n2 k hk
      have KR2 : KpR s2 κ := KpR_of (fun j _ => r2 _ _ (by omega)) n5
      have rw2 : wayR s2 p (L p) := wayR_fr F2 (fun a j h1 h2 => xs_f (by omega)) (wayR_fr F1 (fun a j h1 h2 => xhC_f (by omega)) rw_)
      refine e_c12_serve (perR_t (by rw [r2 _ _ (by omega)]; exact OR.2.2.2.2.1) OC.2.1 hp (yes1 (e_c12_isWriting (isWri_2 rw2 (L p) 0 rfl (Nat.zero_le _) (fun _ => yes1 (w_inst (cx x hxm) h24 (by rw [r2 _ _ (by omega)]; exact OR.2.2.2.1) N2 hw31 ?_)) (fun z => absurd ⟨x, hxm, rfl⟩ z)))))
      rw [if_pos hs]
      refine yes1 (w_keepsR (IHm_fr F2 (fun a j q => xs_f (by
        unfold fIH at q
        simp only [Bool.or_eq_true, Bool.and_eq_true, Nat.beq_eq, Nat.ble_eq] at q
        omega)) H1) n3 N2 KR2 (fun s3 F3 H3 => ?_))
      have e64 : rI s3 162 64 = 0 := by rw [F3.1 _ _ (xhR_f (by omega)), r2 _ _ (by omega)]; exact n6
      refine w_hands (s0 := s3) (th := false) (κ := κ) hp6 (cx x hxm) h24 (by rw [F3.1 _ _ (xhR_f (by omega)), r2 _ _ (by omega)]; exact OR.2.2.2.1) (NwW_fr F3 (fun _ _ => xhR_f (by omega)) N2) ⟨(fun q => by cases q), fun _ => KpR_of (fun j _ => F3.1 _ _ (xhR_f (by omega))) KR2⟩ e64 hw hs (fun s4 g1 g2 g3 g4 g5 => ⟨rfl, ?_⟩)
      have F4 : Fr (fun a _ => Nat.beq a 200) s3 s4 := ⟨fun a j q => g1 a j (fun z => by subst z; cases q), fun a j _ => g2 a j, g3⟩
      have F : Fr Xw s s4 := fr_tr (fr_tr (fr_mo F1 fun a j q => xw_c q) (fr_mo F2 fun a j q => xw_s q)) (fr_tr (fr_mo F3 fun a j q => xw_r q) (fr_mo F4 fun a j q => by
        have : a = 200 := Nat.eq_of_beq_eq_true q
        subst this
        exact xw_z rfl))
      refine IA_Inv (IA_w I F ?_ ⟨?_, g4, hdV n3 hp, ?_, g5.2 rfl, by rw [g1 _ _ (by omega)]; exact e64, ?_⟩ (IH_fr F4 (fun a j q => nb200 (a := a) (j := j) (fun z => by subst z; cases q)) H3))
      · exact cS_of F4 rfl rfl (cS_of F3 rfl rfl (cS_of F2 rfl rfl (cS_of F1 rfl rfl cS)))
      · exact StW_fr F4 (fun a j p q => nb200 (a := a) (j := j) (by omega)) (StW_fr F3 (fun a j p q => xhR_f (by omega)) W2)
      · exact KpC_fr F4 (fun a j q => nb200 (a := a) (j := j) (by omega)) (KpC_fr F3 (fun a j q => xhR_f (by omega)) K2)
      · exact k148_fr F4 (fun a j q => nb200 (a := a) (j := j) (by omega)) (k148_fr F3 (fun a j q => xhR_f (by omega)) (k148_fr F2 (fun a j q => xs_f (by omega)) (k148_fr F1 (fun a j q => xhC_f (by omega)) n7)))
    · refine br_f hs (no0 (refC (k := 2) (by decide) (e_c12_serve (per1 (yes1 (e_c12_isWriting (isWri_2 rw1 (L p) 0 rfl (Nat.zero_le _) (fun _ => yes1 (w_inst (cx x hxm) h24 (by rw [r1 _ _ (by omega)]; exact OR.2.2.2.1) (fun k hk => by rw [r1 _ _ (by omega)]; exact n2 k hk) hw31 ?_)) (fun z => absurd ⟨x, hxm, rfl⟩ z))))))))
      rw [if_neg hs]
      exact no0 hb
  · exact e_c11_serve (perC_f OC.2.2.2.2.1 OC.2.1 hp (no0 (refC (k := 2) (by decide) (e_c12_serve (perR_f (by rw [r1 _ _ (by omega)]; exact OR.2.2.2.2.1) OC.2.1 hp (no0 hb))))))
theorem op_person {s : sT} (v y : Int32) (I : Inv s) : two Inv (c11_person v y) (c12_person v y) s := by
  obtain ⟨fin, most, ppl, bk, mi, L, lc, cc, w, κ, I⟩ := I
  have I2 := I
  obtain ⟨-, io, ⟨n1, n2, n3, n4, n5, n6, n7⟩, ih, -⟩ := I2
  have io2 := io
  obtain ⟨-, -, -, -, -, -, -, OC, OR, -, -, o12⟩ := io2
  have h24 := OC.1
  have hM := wV_M n3
  have hw := wM_B hM
  have II := IA_Inv I
  by_cases hp : ∃ p, p < ppl ∧ v = nI p
  · obtain ⟨p, hp, rfl⟩ := hp
    obtain ⟨cw, cx⟩ := OC.2.2.2.2.2.2.2 p hp
    obtain ⟨rw_, -⟩ := OR.2.2.2.2.2.2.2 p hp
    obtain ⟨-, ⟨a, b, b1, b2, b3, b4, b5, b6, b7, b8⟩, -⟩ := o12 p hp
    have hp6 := cw.1
    have R : ∀ {Q : Int32 → sT → Prop}, Q 1 s → c12_isPerson (nI p) Q s := fun q => perR_t OR.2.2.2.2.1 OC.2.1 hp q
    have e12 : (12 : Int32) + (2 : Int32) * nI p = nI (12 + 2 * p) := by rw [show (12 : Int32) = nI 12 from rfl, show (2 : Int32) = nI 2 from rfl, pk_mul, nI_add]
    refine e_c11_person (perC_t OC.2.2.2.2.1 OC.2.1 hp (yes1 (br_c (fun q => ?_) (fun q0 => br_c (fun q => ?_) (fun q1 => br_c (fun q => ?_) (fun q2 => br_c (fun q => ?_) (fun q3 => br_c (fun q => ?_) (fun q4 => br_c (fun q => ?_) (fun q5 => ?_)))))))))
    · refine ⟨vp_in_nI hp6 (by decide), e_c12_person (R (yes1 (br_t q ?_)))⟩
      have e : (12 : Int32) + (2 : Int32) * nI p + y = nI (12 + 2 * p) := by rw [e12, q, Int32.add_zero]
      rw [e, nI_clamp (by omega), nI_clamp (by omega), b5, b6]
      exact ⟨vp_in_nI (by omega) (by decide), rfl, II⟩
    · refine ⟨vp_in_nI hp6 (by decide), e_c12_person (R (yes1 (br_f q0 (br_t q ?_))))⟩
      have e : (12 : Int32) + (2 : Int32) * nI p + y = nI (13 + 2 * p) := by
        rw [e12, q, nI_1]
        congr 1
        omega
      rw [e, nI_clamp (by omega), nI_clamp (by omega), b7, b8]
      exact ⟨vp_in_nI (by omega) (by decide), rfl, II⟩
    · refine ⟨vp_in_nI hp6 (by decide), e_c12_person (R (yes1 (br_f q0 (br_f q1 (br_t q (e_c12_hungerOf ?_))))))⟩
      rw [vHun, nI_clamp (by omega), nI_clamp (by omega), n1.2.2.2.1 p hp6, n2 _ (by omega)]
      exact ⟨vp_in_nI (by omega) (by decide), rfl, II⟩
    · refine ⟨vp_in_nI hp6 (by decide), e_c12_person (R (yes1 (br_f q0 (br_f q1 (br_f q2 (br_t q (e_c12_timesOf ?_)))))))⟩
      rw [vTim, nI_clamp (by omega), nI_clamp (by omega), n1.2.2.2.2 p hp6, n2 _ (by omega)]
      exact ⟨vp_in_nI (by omega) (by decide), rfl, II⟩
    · refine ⟨vp_in_nI hp6 (by decide), e_c12_person (R (yes1 (br_f q0 (br_f q1 (br_f q2 (br_f q3 (br_t q ⟨vp_in_nI hp6 (by decide), ?_, II⟩)))))))⟩
      rw [nI_clamp (by omega), cw.2.2.1, rw_.2.2.1]
    · refine w_choose (Or.inl rfl) (OC.2.2.2.2.2.2.1 (by omega)) cw n1.1 n1.2.2.1 (n1.2.2.2.1 p hp6) hw OC.2.2.2.1 h24 cx (fun s1 F1 => ?_)
      have r1 : ∀ a j, a ≠ 146 → a ≠ 31 → rI s1 a j = rI s a j := fun a j p q => F1.1 _ _ (by unfold Xc; simp [p, q])
      have N1 : NwW s1 w := fun k hk => by rw [r1 _ _ (by omega) (by omega)]; exact n2 k hk
      have xlt : chs (L p) (gdB lc w p) < 2 ^ 24 := by
        rcases chs_mem (L := L p) (g := gdB lc w p) with z | z
        · rw [z]; decide
        · exact (cw.2.2.2.2 _ z.1).2
      have key : ∀ r : Int32, r = (if chs (L p) (gdB lc w p) = 0 then -1 else nI (chs (L p) (gdB lc w p))) → c12_person (nI p) y (fun r2 s2 => r = r2 ∧ Inv s2) s1 := fun r hr => by
        refine e_c12_person (perR_t (by rw [r1 _ _ (by omega) (by omega)]; exact OR.2.2.2.2.1) OC.2.1 hp (yes1 (br_f q0 (br_f q1 (br_f q2 (br_f q3 (br_f q4 (br_t q ?_))))))))
        refine w_takenBy h24 (by rw [r1 _ _ (by omega) (by omega)]; exact OR.2.2.2.1) N1 hw (likR_fr F1 (fun a j h1 h2 => by unfold Xc; simp; omega) OR.2.2.2.2.2.2.1) (wayR_fr F1 (fun a j h1 h2 => by unfold Xc; simp; omega) rw_) cx (fun s2 F2 => ⟨hr, ?_⟩)
        refine IA_Inv (IA_z I (fr_tr (fr_mo F1 fun a j q => xz_d (xd_c q)) (fr_mo F2 fun a j q => xz_r q)) (NwW_fr F2 (fun _ _ => rfl) N1) (fun j hj => by rw [F2.1 _ _ rfl, r1 _ _ (by omega) (by omega)]) (by rw [F2.1 _ _ rfl, r1 _ _ (by omega) (by omega)]; exact n6) ?_)
        exact k148_fr F2 (fun a j q => by rcases q with rfl | rfl <;> rfl) (k148_fr F1 (fun a j q => by rcases q with rfl | rfl <;> rfl) n7)
      refine e_c11_setOrNone (br_c (fun z => key _ ?_) (fun z => key _ ?_))
      · have : chs (L p) (gdB lc w p) ≠ 0 := fun y => by rw [y] at z; exact absurd z (by decide)
        rw [if_neg this]
      · have : chs (L p) (gdB lc w p) = 0 := by
          rcases Nat.eq_zero_or_pos (chs (L p) (gdB lc w p)) with y | y
          · exact y
          · exact absurd (nI_lt (a := 0) y (by omega)) z
        rw [if_pos this]
    · exact e_c12_person (R (yes1 (br_f q0 (br_f q1 (br_f q2 (br_f q3 (br_f q4 (br_f q5 ⟨rfl, II⟩))))))))
  · exact e_c11_person (perC_f OC.2.2.2.2.1 OC.2.1 hp (no0 (e_c12_person (perR_f OR.2.2.2.2.1 OC.2.1 hp (no0 ⟨rfl, II⟩)))))
