/-- what a day of the reference writes -/
def Xq (a j : Nat) : Bool := Nat.beq a 200 || (Nat.beq a 239 || (Nat.beq a 162 && (Nat.beq j 50 || (Nat.beq j 59 || (Nat.beq j 61 || (Nat.beq j 62 || (Nat.beq j 63 || Nat.beq j 107)))))))
theorem xq_r {a j : Nat} (h : Xr a j = true) : Xq a j = true := by
  unfold Xr at h
  unfold Xq
  simp only [Bool.or_eq_true, Bool.and_eq_true, Nat.beq_eq] at *
  omega
theorem xq_f {a j : Nat} (h : a ≠ 239) (h2 : a ≠ 162) (h3 : a ≠ 200) : Xq a j = false := by
  unfold Xq
  rw [Bool.eq_false_iff]
  intro q
  simp only [Bool.or_eq_true, Bool.and_eq_true, Nat.beq_eq] at q
  omega
/-- how many bits -/
def pcN (x : Nat) : Nat → Nat
  | 0 => 0
  | n + 1 => pcN x n + (if x.testBit n = true then 1 else 0)
theorem pcN_or {x p : Nat} (hx : x < 2 ^ p) : ∀ n, pcN (x ||| 2 ^ p) n = pcN x n + (if p < n then 1 else 0)
  | 0 => rfl
  | n + 1 => by
    rw [pcN, pcN, pcN_or hx n, Nat.testBit_or, Nat.testBit_two_pow]
    by_cases h : p = n
    · subst h
      rw [t_lt hx (Nat.le_refl _)]
      simp
    · by_cases h2 : p < n
      · simp [h, h2, show p < n + 1 by omega]
        omega
      · simp [h, h2, show ¬ p < n + 1 by omega]
def th0 (th : Bool) (s0 s : sT) (κ : kT) : Prop := (th = true → ∀ j, 37 ≤ j → rI s 200 j = rI s0 200 j) ∧ (th = false → KpR s κ)
theorem vHun {p : Nat} : (25 : Int32) + (2 : Int32) * nI p = nI (25 + 2 * p) := by rw [show (25 : Int32) = nI 25 from rfl, show (2 : Int32) = nI 2 from rfl, pk_mul, nI_add]
theorem vTim {p : Nat} : (26 : Int32) + (2 : Int32) * nI p = nI (26 + 2 * p) := by rw [show (26 : Int32) = nI 26 from rfl, show (2 : Int32) = nI 2 from rfl, pk_mul, nI_add]
theorem w_hands {p x fin : Nat} {w : Nat → Nat} {κ : kT} {th : Bool} {Q : sT → Prop} {s0 s : sT} (hp : p < 6) (hx : x < 2 ^ fin) (hf : fin ≤ 24) (hF : rI s 193 5 = nI fin) (N : NwW s w) (T : th0 th s0 s κ) (ht : rI s 162 64 = if th = true then 1 else 0) (hw : wB w) (hs : sB x (fun n => decide (0 < w n)) = true) (h : ∀ s', (∀ a j, a ≠ 200 → rI s' a j = rI s a j) → (∀ a j, rJ s' a j = rJ s a j) → s'.2.2 = s.2.2 → NwW s' (hdW w p x) → th0 th s0 s' (kA κ (w 0) p x) → Q s') : c12_hands (nI p) (nI x) Q s := by
  refine e_c12_hands (w_moves hx hf hF ?_)
  generalize hu1 : wC s 200 (mvF x (-1) 24 (rA s 200)) = u1
  have hsb := sB_iff.1 hs
  have r1 : ∀ a j, rI u1 a j = if a = 200 then mvF x (-1) 24 (rA s 200) j else rI s a j := fun a j => by rw [← hu1, rI_wC]
  have r2 : ∀ n, n < 37 → rI u1 200 n = nI (tkW x w n) := fun n h1 => by
    rw [r1, if_pos rfl]
    unfold mvF tkW
    by_cases z : 1 ≤ n ∧ n ≤ 24 ∧ x.testBit (n - 1) = true
    · rw [if_pos z, if_pos z, rA_r, N n h1]
      have := hsb (n - 1) (by omega) z.2.2
      rw [show n - 1 + 1 = n by omega] at this
      exact nI_dec (of_decide_eq_true this)
    · rw [if_neg z, if_neg z, rA_r, N n h1]
  have r3 : ∀ n, 37 ≤ n → rI u1 200 n = rI s 200 n := fun n h1 => by
    rw [r1, if_pos rfl]
    unfold mvF
    rw [if_neg (by omega)]
    rfl
  rw [vHun, vTim]
  refine ⟨vp_in_nI (by omega) (by decide), fun u2 hu2 => e_c12_timesOf ?_⟩
  rw [nI_clamp (by omega)] at hu2
  rw [vTim, nI_clamp (by omega)]
  have g26 : rI u2 200 (26 + 2 * p) = nI (w (26 + 2 * p)) := by
    rw [hu2, rI_wI, if_neg (by omega), r2 _ (by omega)]
    unfold tkW
    rw [if_neg (by omega)]
  have b26 := hw (26 + 2 * p)
  rw [g26, nI_1]
  refine ⟨vp_in_nI (by omega) (by decide), lessOf_nI (a := 999) (by decide) (by omega) ⟨vp_in_nI (by omega) (by decide), fun u3 hu3 => ?_⟩⟩
  have r5 : ∀ a j, a ≠ 200 → rI u3 a j = rI s a j := fun a j ha => by rw [hu3, rI_wI, if_neg (by omega), hu2, rI_wI, if_neg (by omega), r1, if_neg ha]
  have r6 : ∀ j, 37 ≤ j → rI u3 200 j = rI s 200 j := fun j hj => by rw [hu3, rI_wI, if_neg (by omega), hu2, rI_wI, if_neg (by omega), r3 j hj]
  have r7 : ∀ j, j < 37 → rI u3 200 j = nI (hdW w p x j) := fun j hj => by
    rw [hu3, rI_wI, hu2, rI_wI, r2 j hj]
    unfold hdW uN
    by_cases z : j = 26 + 2 * p
    · rw [if_pos ⟨rfl, z⟩, if_pos z]
    · rw [if_neg (fun y => z y.2), if_neg z]
      by_cases z2 : j = 25 + 2 * p
      · rw [if_pos ⟨rfl, z2⟩, if_pos z2]; rfl
      · rw [if_neg (fun y => z2 y.2), if_neg z2]
  have rj : ∀ a j, rJ u3 a j = rJ s a j := fun a j => by rw [hu3, hu2, ← hu1]; rfl
  have ro : u3.2.2 = s.2.2 := by rw [hu3, hu2, ← hu1]; rfl
  cases th with
  | true =>
    refine e_c12_isKept (br_f (by rw [r5 _ _ (by decide), ht]; decide) (h u3 r5 rj ro r7 ⟨fun _ j hj => ?_, fun q => by cases q⟩))
    rw [r6 j hj]
    exact T.1 rfl j hj
  | false =>
    have K := T.2 rfl
    refine w_kept (d := w 0) (κ := κ) (by rw [r5 _ _ (by decide), ht]; rfl) ⟨by rw [r6 _ (by omega)]; exact K.1, K.2.1, fun k hk j hj => by rw [r6 _ (by omega)]; exact K.2.2 k hk j hj⟩ (by rw [r7 0 (by omega), hdW_0]) (fun s' g1 g2 g3 g4 => h s' (fun a j ha => by rw [g1 a j (Or.inl ha), r5 a j ha]) (fun a j => by rw [g2, rj]) (by rw [g3, ro]) (fun k hk => by rw [g1 _ _ (Or.inr hk)]; exact r7 k hk) ⟨(fun q => by cases q), fun _ => g4⟩)
/-- the office as the reference holds it, as far as a day asks -/
def OCr (s : sT) (fin ppl bk : Nat) (L : Nat → List Nat) (lc : List Nat) : Prop := fin ≤ 24 ∧ ppl ≤ 6 ∧ bk ≤ 9 ∧ rI s 193 5 = nI fin ∧ rI s 193 7 = nI ppl ∧ rI s 193 8 = nI bk ∧ likR s lc ∧ ∀ p, p < ppl → wayR s p (L p) ∧ ∀ x ∈ L p, x < 2 ^ fin
theorem OCr_fr {X : Nat → Nat → Bool} {s t : sT} {fin ppl bk : Nat} {L : Nat → List Nat} {lc : List Nat} (h : Fr X s t) (h1 : ∀ a j, a = 193 ∨ a = 197 ∨ a = 198 ∨ a = 199 ∨ a = 204 ∨ a = 205 → X a j = false) (C : OCr s fin ppl bk L lc) : OCr t fin ppl bk L lc := by
  obtain ⟨c1, c2, c3, c4, c5, c6, c7, c8⟩ := C
  have g : ∀ j, rI t 193 j = rI s 193 j := fun j => h.1 _ _ (h1 _ _ (by omega))
  refine ⟨c1, c2, c3, by rw [g]; exact c4, by rw [g]; exact c5, by rw [g]; exact c6, likR_fr h (fun a j h2 h3 => h1 _ _ (by omega)) c7, fun p hp => ⟨wayR_fr h (fun a j h2 h3 => h1 _ _ (by omega)) (c8 p hp).1, (c8 p hp).2⟩⟩
/-- in the midst of a day -/
def RS (th : Bool) (s0 : sT) (z : zT) (s : sT) : Prop := Fr Xq s0 s ∧ NwW s z.1 ∧ th0 th s0 s z.2.1 ∧ rI s 162 63 = nI z.2.2 ∧ rI s 162 62 = rI s0 162 62 + nI (pcN z.2.2 6)
theorem w_comesBy {p fin ppl bk : Nat} {L : Nat → List Nat} {lc : List Nat} {z : zT} {th : Bool} {Q : sT → Prop} {s0 s : sT} (C : OCr s0 fin ppl bk L lc) (hp : p < ppl) (R : RS th s0 z s) (ht : rI s0 162 64 = if th = true then 1 else 0) (hM : wM z.1) (hz : z.2.2 < 2 ^ p) (h : ∀ s', RS th s0 (stP L lc z p) s' → Q s') : c12_comesBy (nI p) Q s := by
  obtain ⟨hr, N, T, e63, e62⟩ := R
  have C' : OCr s fin ppl bk L lc := OCr_fr hr (fun a j q => xq_f (by omega) (by omega) (by omega)) C
  obtain ⟨c1, c2, c3, c4, c5, c6, c7, c8⟩ := C'
  obtain ⟨cw, cx⟩ := c8 p hp
  have hp6 : p < 6 := cw.1
  have hw := wM_B hM
  unfold stP at h
  refine e_c12_comesBy (w_wfor c1 c4 N hw c7 cw cx (fun k hk s1 hs1 e ne => ?_) (fun s1 hs1 e => ?_))
  · have hne : ¬ nI k = (-1 : Int32) := fun y => by
      have := congrArg Int32.toInt y
      have w2 := cw.2.1
      rw [nI_toInt (by omega)] at this
      have e : ((-1 : Int32)).toInt = -1 := rfl
      omega
    have w2 := cw.2.1
    have e4 : (2000 : Int32) * nI p + nI k = nI (2000 * p + k) := by rw [show (2000 : Int32) = nI 2000 from rfl, pk_mul, nI_add]
    refine br_f hne ⟨by rw [e4]; exact vp_in_nI (by omega) (by decide), ?_⟩
    rw [e4, nI_clamp (by omega), hs1.1 204 _ rfl, cw.2.2.2.1 k hk]
    have hxm : (L p)[k] ∈ L p := List.getElem_mem hk
    rw [← e, if_neg ne] at h
    have hsb : sB (L p)[k] (fun n => decide (0 < z.1 n)) = true := by
      rcases chs_mem (L := L p) (g := gdB lc z.1 p) with y | y
      · rw [← e] at y; exact absurd y ne
      · rw [← e] at y
        have := sB_iff.1 y.2
        rw [sB_iff]
        intro i hi hb
        have := this i hi hb
        unfold gdB at this
        rw [Bool.and_eq_true] at this
        exact this.1
    have T1 : th0 th s0 s1 z.2.1 := ⟨fun q j hj => by rw [hs1.1 _ _ rfl]; exact T.1 q j hj, fun q => by
      obtain ⟨a, b, c⟩ := T.2 q
      exact ⟨by rw [hs1.1 _ _ rfl]; exact a, b, fun k hk j hj => by rw [hs1.1 _ _ rfl]; exact c k hk j hj⟩⟩
    refine w_hands (s0 := s0) (th := th) hp6 (cx _ hxm) c1 (by rw [hs1.1 _ _ rfl]; exact c4) (NwW_fr hs1 (fun _ _ => rfl) N) T1 (by rw [hs1.1 _ _ rfl, hr.1 _ _ rfl]; exact ht) hw hsb (fun s2 g1 g2 g3 g4 g5 u hu v hv => ?_)
    rw [one_shl (by omega)] at hv
    have i63 : rI u 162 63 = nI z.2.2 := by rw [hu, rI_wI, if_neg (by omega), g1 _ _ (by omega), hs1.1 _ _ rfl]; exact e63
    have i62 : rI s2 162 62 = rI s0 162 62 + nI (pcN z.2.2 6) := by rw [g1 _ _ (by omega), hs1.1 _ _ rfl]; exact e62
    rw [i63, nI_or] at hv
    rw [i62] at hu
    have rv : ∀ a j, ¬ (a = 162 ∧ (j = 62 ∨ j = 63)) → rI v a j = rI s2 a j := fun a j q => by rw [hv, rI_wI, if_neg (by omega), hu, rI_wI, if_neg (by omega)]
    refine h v ⟨⟨fun a j q => ?_, fun a j q => ?_, ?_⟩, fun k hk => by rw [rv _ _ (by omega)]; exact g4 k hk, ⟨fun q j hj => by rw [rv _ _ (by omega)]; exact g5.1 q j hj, fun q => ?_⟩, ?_, ?_⟩
    · have q1 : Xr a j = false := by
        cases hb : Xr a j with
        | false => rfl
        | true => rw [xq_r hb] at q; cases q
      have q2 : ¬ a = 200 := fun y => by subst y; cases q
      have q3 : ¬ (a = 162 ∧ (j = 62 ∨ j = 63)) := fun y => by
        obtain ⟨rfl, y⟩ := y
        rcases y with rfl | rfl <;> cases q
      rw [rv a j q3, g1 a j q2, hs1.1 a j q1]
      exact hr.1 a j q
    · have q1 : Xr a j = false := by
        cases hb : Xr a j with
        | false => rfl
        | true => rw [xq_r hb] at q; cases q
      rw [hv, rJ_wI, hu, rJ_wI, g2, hs1.2.1 a j q1]
      exact hr.2.1 a j q
    · rw [hv, hu]
      show s2.2.2 = _
      rw [g3, hs1.2.2]
      exact hr.2.2
    · obtain ⟨a, b, c⟩ := g5.2 q
      exact ⟨by rw [rv _ _ (by omega)]; exact a, b, fun k hk j hj => by rw [rv _ _ (by omega)]; exact c k hk j hj⟩
    · rw [hv, rI_wI, if_pos ⟨rfl, rfl⟩]
    · rw [hv, rI_wI, if_neg (by omega), hu, rI_wI, if_pos ⟨rfl, rfl⟩]
      show _ = rI s0 162 62 + nI (pcN (z.2.2 ||| 2 ^ p) 6)
      rw [pcN_or hz, if_pos (by omega), ← nI_1, Int32.add_assoc]
  · rw [e, if_pos rfl] at h
    refine br_t rfl (e_c12_hungerOf ?_)
    have b25 := hw (25 + 2 * p)
    rw [vHun, nI_clamp (by omega), hs1.1 _ _ rfl, N _ (by omega), nI_1]
    refine ⟨vp_in_nI (by omega) (by decide), lessOf_nI (a := 99) (by decide) (by omega) ⟨vp_in_nI (by omega) (by decide), fun u hu => ?_⟩⟩
    have ru : ∀ a j, a ≠ 200 → rI u a j = rI s1 a j := fun a j q => by rw [hu, rI_wI, if_neg (by omega)]
    refine h u ⟨fr_tr hr (by rw [hu]; exact fr_wI (fr_mo hs1 (fun a j q => xq_r q)) rfl), fun k hk => ?_, ⟨fun q j hj => ?_, fun q => ?_⟩, by rw [ru _ _ (by omega), hs1.1 _ _ rfl]; exact e63, by rw [ru _ _ (by omega), hs1.1 _ _ rfl]; exact e62⟩
    · rw [hu, rI_wI]
      show _ = nI (hgW z.1 p k)
      unfold hgW uN
      by_cases y : k = 25 + 2 * p
      · rw [if_pos ⟨rfl, y⟩, if_pos y]
      · rw [if_neg (fun q => y q.2), if_neg y, hs1.1 _ _ rfl]
        exact N k hk
    · rw [hu, rI_wI, if_neg (by omega), hs1.1 _ _ rfl]
      exact T.1 q j hj
    · obtain ⟨a, b, c⟩ := T.2 q
      exact ⟨by rw [hu, rI_wI, if_neg (by omega), hs1.1 _ _ rfl]; exact a, b, fun k hk j hj => by rw [hu, rI_wI, if_neg (by omega), hs1.1 _ _ rfl]; exact c k hk j hj⟩
theorem stP_lt {L : Nat → List Nat} {lc : List Nat} {z : zT} {p : Nat} (h : z.2.2 < 2 ^ p) : (stP L lc z p).2.2 < 2 ^ (p + 1) := by
  have h2 : z.2.2 < 2 ^ (p + 1) := by rw [Nat.pow_succ]; omega
  unfold stP
  split
  · exact h2
  · exact Nat.or_lt_two_pow h2 (by rw [Nat.pow_succ]; have := Nat.two_pow_pos p; omega)
theorem w_dayGoes_33 {fin ppl bk : Nat} {L : Nat → List Nat} {lc : List Nat} {th : Bool} {Q : sT → Prop} {s0 : sT} (C : OCr s0 fin ppl bk L lc) (ht : rI s0 162 64 = if th = true then 1 else 0) : ∀ m p (z : zT) s, p + m = ppl → RS th s0 z s → wM z.1 → z.2.2 < 2 ^ p → (∀ s', RS th s0 (uN (dayL L lc m p z).1 0 (z.1 0 + 1), (dayL L lc m p z).2) s' → Q s') → c12_dayGoes_33 (nI p) Q s
  | 0, p, z, s, e, R, hM, hz, h => by
    have e : p = ppl := e
    subst e
    have c2 := C.2.1
    have c5 : rI s 193 7 = nI p := by rw [R.1.1 _ _ rfl]; exact C.2.2.2.2.1
    refine e_c12_dayGoes_33 (e_c12_personMany (br_f (by rw [c5]; exact nI_nlt (Nat.le_refl _) (by omega)) (fun u hu => ?_)))
    obtain ⟨hr, N, T, e63, e62⟩ := R
    rw [N 0 (by omega), nI_1] at hu
    refine h u ⟨by rw [hu]; exact fr_wI hr rfl, fun k hk => ?_, ⟨fun q j hj => by rw [hu, rI_wI, if_neg (by omega)]; exact T.1 q j hj, fun q => ?_⟩, by rw [hu, rI_wI, if_neg (by omega)]; exact e63, by rw [hu, rI_wI, if_neg (by omega)]; exact e62⟩
    · show rI u 200 k = nI (uN z.1 0 (z.1 0 + 1) k)
      rw [hu, rI_wI]
      by_cases y : k = 0
      · subst y
        rw [if_pos ⟨rfl, rfl⟩, uN_eq]
      · rw [if_neg (fun q => y q.2), uN_ne y]
        exact N k hk
    · obtain ⟨a, b, c⟩ := T.2 q
      exact ⟨by rw [hu, rI_wI, if_neg (by omega)]; exact a, b, fun k hk j hj => by rw [hu, rI_wI, if_neg (by omega)]; exact c k hk j hj⟩
  | m + 1, p, z, s, e, R, hM, hz, h => by
    have c2 := C.2.1
    have c5 : rI s 193 7 = nI ppl := by rw [R.1.1 _ _ rfl]; exact C.2.2.2.2.1
    refine e_c12_dayGoes_33 (e_c12_personMany (br_t (by rw [c5]; exact nI_lt (by omega) (by omega)) ?_))
    refine w_comesBy C (by omega) R ht hM hz (fun s1 R1 => ?_)
    rw [nI_1]
    exact w_dayGoes_33 C ht m (p + 1) _ s1 (by omega) R1 (stP_M hM) (stP_lt hz) (fun s' q => h s' (by rw [stP_0] at q; exact q))
/-- a day goes, in the reference -/
theorem w_dayGoes {fin ppl bk : Nat} {L : Nat → List Nat} {lc : List Nat} {w : Nat → Nat} {κ : kT} {th : Bool} {Q : sT → Prop} {s0 s : sT} (C : OCr s0 fin ppl bk L lc) (ht : rI s0 162 64 = if th = true then 1 else 0) (hr : Fr Xq s0 s) (N : NwW s w) (T : th0 th s0 s κ) (hM : wM w) (h : ∀ s', Fr Xq s0 s' → NwW s' (dayF L lc ppl bk w κ).1 → th0 th s0 s' (dayF L lc ppl bk w κ).2.1 → rI s' 162 63 = nI (dayF L lc ppl bk w κ).2.2 → rI s' 162 62 = rI s 162 62 + nI (pcN (dayF L lc ppl bk w κ).2.2 6) → Q s') : c12_dayGoes Q s := by
  have C' : OCr s fin ppl bk L lc := OCr_fr hr (fun a j q => xq_f (by omega) (by omega) (by omega)) C
  have c6 := C'.2.2.2.2.2.1
  have c3 := C.2.2.1
  have m1 := hM.2 1 (by decide)
  refine e_c12_dayGoes (fun u hu => ?_)
  have ru : ∀ a j, a ≠ 162 → rI u a j = rI s a j := fun a j q => by rw [hu, rI_wI, if_neg (by omega)]
  rw [ru _ _ (by omega), ru _ _ (by omega), N 1 (by omega), c6, nI_add]
  refine lessOf_nI (a := 999) (by decide) (by omega) (fun v hv => ?_)
  have hrv : Fr Xq s v := by rw [hv]; exact fr_wI (by rw [hu]; exact fr_wI fr_rf rfl) rfl
  have C2 : OCr v fin ppl bk L lc := OCr_fr hrv (fun a j q => xq_f (by omega) (by omega) (by omega)) C'
  have rv2 : ∀ j, 37 ≤ j → rI v 200 j = rI s 200 j := fun j hj => by rw [hv, rI_wI, if_neg (by omega), hu, rI_wI, if_neg (by omega)]
  have e62 : rI v 162 62 = rI s 162 62 := by rw [hv, rI_wI, if_neg (by omega), hu, rI_wI, if_neg (by omega)]
  refine w_dayGoes_33 C2 (th := th) (by rw [hrv.1 _ _ rfl, hr.1 _ _ rfl]; exact ht) ppl 0 (day0 bk w κ) v (Nat.zero_add _) ⟨fr_rf, fun k hk => ?_, ⟨fun q j hj => rfl, fun q => ?_⟩, ?_, ?_⟩ (day0_M hM) (Nat.two_pow_pos 0) (fun s' R => ?_)
  · show rI v 200 k = nI (uN w 1 _ k)
    rw [hv, rI_wI]
    by_cases y : k = 1
    · subst y
      rw [if_pos ⟨rfl, rfl⟩, uN_eq]
    · rw [if_neg (fun q => y q.2), uN_ne y, ru _ _ (by omega)]
      exact N k hk
  · obtain ⟨a, b, c⟩ := T.2 q
    exact ⟨by rw [rv2 _ (by omega)]; exact a, b, fun k hk j hj => by rw [rv2 _ (by omega)]; exact c k hk j hj⟩
  · rw [hv, rI_wI, if_neg (by omega), hu, rI_wI, if_pos ⟨rfl, rfl⟩]; rfl
  · have e : pcN (day0 bk w κ).2.2 6 = 0 := by
      show pcN 0 6 = 0
      decide
    rw [e, nI_0, Int32.add_zero]
  · obtain ⟨g1, g2, g3, g4, g5⟩ := R
    rw [day0_0] at g2
    refine h s' (fr_tr hr (fr_tr hrv g1)) ?_ ⟨fun q j hj => ?_, g3.2⟩ g4 (by rw [← e62]; exact g5)
    · unfold dayF
      rw [dayL_0, day0_0]
      exact g2
    · rw [g3.1 q j hj, rv2 j hj]
      exact T.1 q j hj
