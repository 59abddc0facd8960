/-- what seeing writes -/
def XE (a j : Nat) : Bool := Nat.beq a 1 || ((Nat.beq a 2 && Nat.beq j 1) || ((Nat.beq a 147 && Nat.beq j 7) || (Nat.beq a 155 || ((Nat.beq a 162 && (Nat.beq j 1 || Nat.beq j 69)) || (Nat.beq a 164 || Nat.beq a 210)))))
theorem off_XE {f : Nat → Nat → Bool} (h1 : ∀ j, f 1 j = false) (h2 : f 2 1 = false) (h3 : f 147 7 = false) (h4 : ∀ j, f 155 j = false) (h5 : f 162 1 = false) (h6 : f 162 69 = false) (h7 : ∀ j, f 164 j = false) (h8 : ∀ j, f 210 j = false) : off f XE := fun a j q => by
  unfold XE
  rw [Bool.eq_false_iff]
  intro z
  simp only [Bool.or_eq_true, Bool.and_eq_true, Nat.beq_eq] at z
  rcases z with rfl | ⟨rfl, rfl⟩ | ⟨rfl, rfl⟩ | rfl | ⟨rfl, rfl | rfl⟩ | rfl | rfl
  · rw [h1] at q; cases q
  · rw [h2] at q; cases q
  · rw [h3] at q; cases q
  · rw [h4] at q; cases q
  · rw [h5] at q; cases q
  · rw [h6] at q; cases q
  · rw [h7] at q; cases q
  · rw [h8] at q; cases q
theorem IA_E {s t : sT} {fin most ppl bk mi : Nat} {L : Nat → List Nat} {lc cc : List Nat} {w : Nat → Nat} {κ : kT} (I : IA s fin most ppl bk mi L lc cc w κ) (h : Fr XE s t) (hT : IT t) (hR : IR t) (hX : IX t ppl) : Inv t := by
  obtain ⟨⟨c1, c2, c3, c4, c5, c6⟩, i1, i2, i3, i4, i5⟩ := I
  exact ⟨fin, most, ppl, bk, mi, L, lc, cc, w, κ, ⟨IC_fr h (off_XE (fun _ => rfl) rfl rfl (fun _ => rfl) rfl rfl (fun _ => rfl) (fun _ => rfl)) c1, hT, hR, IF_fr h (off_XE (fun _ => rfl) rfl rfl (fun _ => rfl) rfl rfl (fun _ => rfl) (fun _ => rfl)) c4, IP_fr h (off_XE (fun _ => rfl) rfl rfl (fun _ => rfl) rfl rfl (fun _ => rfl) (fun _ => rfl)) c5, IS_fr h (off_XE (fun _ => rfl) rfl rfl (fun _ => rfl) rfl rfl (fun _ => rfl) (fun _ => rfl)) c6⟩, IO_fr h (off_XE (fun _ => rfl) rfl rfl (fun _ => rfl) rfl rfl (fun _ => rfl) (fun _ => rfl)) i1, IN_fr h (off_XE (fun _ => rfl) rfl rfl (fun _ => rfl) rfl rfl (fun _ => rfl) (fun _ => rfl)) i2, IH_fr h (off_XE (fun _ => rfl) rfl rfl (fun _ => rfl) rfl rfl (fun _ => rfl) (fun _ => rfl)) i3, hX, IK_fr h (off_XE (fun _ => rfl) rfl rfl (fun _ => rfl) rfl rfl (fun _ => rfl) (fun _ => rfl)) i5⟩
def seF (f : Nat → Nat) (ppl : Nat) : Nat → Nat → Bool
  | 0, _ => true
  | m + 1, r => if f (3 * r) < 31 ∧ f (3 * r + 1) < ppl ∧ f (3 * r + 2) ≤ 1 then seF f ppl m (r + 1) else false
theorem w_seC {f : Nat → Nat} {c ppl : Nat} {Q : Int32 → sT → Prop} {s : sT} (c16 : c ≤ 16) (h6 : ppl ≤ 6) (h2 : rI s 2 1 = nI (3 * c)) (hP : rI s 21 2 = nI ppl) (h3 : ∀ k, k < 1600 → f k < 256 ∧ rI s 3 k = nI (f k)) : ∀ m r, r + m = c → (seF f ppl m r = true → Q (nI c) (wI (wC s 155 (va_cpy (rA s 3) (rA s 155) 0 0 (3 * c))) 147 7 (nI c))) → (seF f ppl m r = false → Q (-1) s) → c5_seeTape_32 (nI c) (nI (3 * r)) Q s
  | 0, r, e, ht, hf => by
    have e : r = c := e
    subst e
    refine e_c5_seeTape_32 (br_f (by rw [h2]; exact nI_nlt (Nat.le_refl _) (by omega)) ?_)
    rw [h2, nI_clamp (by omega)]
    refine ⟨⟨by decide, by decide, nI_pos (by omega), by omega, by omega⟩, fun u1 g1 u2 g2 => ?_⟩
    rw [g2, g1]
    exact ht rfl
  | m + 1, r, e, ht, hf => by
    unfold seF at ht hf
    obtain ⟨b0, v0⟩ := h3 (3 * r) (by omega)
    obtain ⟨b1, v1⟩ := h3 (3 * r + 1) (by omega)
    obtain ⟨b2, v2⟩ := h3 (3 * r + 2) (by omega)
    refine e_c5_seeTape_32 (br_t (by rw [h2]; exact nI_lt (by omega) (by omega)) ⟨vp_in_nI (by omega) (by decide), ?_⟩)
    rw [nI_clamp (by omega), v0, show (31 : Int32) = nI 31 from rfl, nI_ltI (by omega) (by decide)]
    refine br_c (fun q0 => ?_) (fun q0 => hf (if_neg (fun z => q0 z.1)))
    rw [nI_1]
    refine ⟨vp_in_nI (by omega) (by decide), ?_⟩
    rw [nI_clamp (by omega), v1, hP, nI_ltI (by omega) (by omega)]
    refine br_c (fun q1 => ?_) (fun q1 => hf (if_neg (fun z => q1 z.2.1)))
    rw [show (2 : Int32) = nI 2 from rfl, nI_add]
    refine ⟨vp_in_nI (by omega) (by decide), ?_⟩
    rw [nI_clamp (by omega), v2, show (1 : Int32) = nI 1 from rfl, nI_ltI (by decide) (by omega)]
    refine br_c (fun q2 => hf (if_neg (fun z => by omega))) (fun q2 => ?_)
    rw [if_pos ⟨q0, q1, by omega⟩] at ht hf
    rw [show (3 : Int32) = nI 3 from rfl, nI_add]
    exact w_seC c16 h6 h2 hP h3 m (r + 1) (by omega) ht hf
theorem w_seB {x y : Int32} {Q : Int32 → sT → Prop} {s : sT} (h : c12_refuses 1 Q s) : c12_see_36 x 0 y Q s :=
  e_c12_see_36 (br_c (fun _ => br_t rfl (br_t rfl h)) (fun _ => br_t rfl h))
theorem w_seR {f : Nat → Nat} {c ppl : Nat} {Q : Int32 → sT → Prop} {s : sT} (c16 : c ≤ 16) (h6 : ppl ≤ 6) (hP : rI s 193 7 = nI ppl) (h3 : ∀ k, k < 1600 → f k < 256 ∧ rI s 163 k = nI (f k)) : ∀ m r, r + m = c → (seF f ppl m r = true → c12_see_107 (nI (3 * c)) 0 Q s) → (seF f ppl m r = false → c12_refuses 1 Q s) → c12_see_36 (nI (3 * c)) 1 (nI (3 * r)) Q s
  | 0, r, e, ht, hf => by
    have e : r = c := e
    subst e
    exact e_c12_see_36 (br_f (nI_nlt (Nat.le_refl _) (by omega)) (yes1 (ht rfl)))
  | m + 1, r, e, ht, hf => by
    unfold seF at ht hf
    obtain ⟨b0, v0⟩ := h3 (3 * r) (by omega)
    obtain ⟨b1, v1⟩ := h3 (3 * r + 1) (by omega)
    obtain ⟨b2, v2⟩ := h3 (3 * r + 2) (by omega)
    refine e_c12_see_36 (br_t (nI_lt (by omega) (by omega)) (yes1 ⟨vp_in_nI (by omega) (by decide), ?_⟩))
    rw [nI_clamp (by omega), v0, show (30 : Int32) = nI 30 from rfl, nI_ltI (by decide) (by omega)]
    refine br_c (fun q0 => w_seB (hf (if_neg (fun z => by omega)))) (fun q0 => ?_)
    rw [nI_1]
    refine ⟨vp_in_nI (by omega) (by decide), ?_⟩
    rw [nI_clamp (by omega), v1]
    by_cases q1 : f (3 * r + 1) < ppl
    · refine perR_t hP h6 q1 (yes1 ?_)
      rw [show (2 : Int32) = nI 2 from rfl, nI_add]
      refine ⟨vp_in_nI (by omega) (by decide), ?_⟩
      rw [nI_clamp (by omega), v2, show (1 : Int32) = nI 1 from rfl, nI_ltI (by decide) (by omega)]
      refine br_c (fun q2 => w_seB (hf (if_neg (fun z => by omega)))) (fun q2 => ?_)
      rw [if_pos ⟨by omega, q1, by omega⟩] at ht hf
      rw [show (3 : Int32) = nI 3 from rfl, nI_add]
      exact w_seR c16 h6 hP h3 m (r + 1) (by omega) ht hf
    · refine perR_f hP h6 ?_ (no0 (w_seB (hf (if_neg (fun z => q1 z.2.1)))))
      rintro ⟨p, hp, z⟩
      rw [nI_eq (by omega) (by omega)] at z
      omega
def X210 (a j : Nat) : Bool := Nat.beq a 210 || (Nat.beq a 162 && Nat.beq j 69)
theorem w_se107 {c : Nat} {Q : Int32 → sT → Prop} {s0 : sT} (c16 : c ≤ 16) (h : ∀ s', Fr X210 s0 s' → (∀ j, j < 3 * c → rI s' 210 j = rI s0 163 j) → rI s' 162 69 = nI c → Q (nI c) s') : ∀ m i s, i + m = 3 * c → Fr X210 s0 s → (∀ j, j < i → rI s 210 j = rI s0 163 j) → c12_see_107 (nI (3 * c)) (nI i) Q s
  | 0, i, s, e, F, g => by
    have e : i = 3 * c := e
    subst e
    refine e_c12_see_107 (br_f (nI_nlt (Nat.le_refl _) (by omega)) (fun u hu => ?_))
    rw [show (3 : Int32) = nI 3 from rfl, pk_div (by omega) (by decide) (by decide), Nat.mul_div_cancel_left _ (by decide)] at hu
    rw [show rI u 162 69 = nI c by rw [hu, rI_wI, if_pos ⟨rfl, rfl⟩]]
    refine h u (by rw [hu]; exact fr_wI F rfl) (fun j hj => by rw [hu, rI_wI, if_neg (by omega)]; exact g j hj) (by rw [hu, rI_wI, if_pos ⟨rfl, rfl⟩])
  | m + 1, i, s, e, F, g => by
    refine e_c12_see_107 (br_t (nI_lt (by omega) (by omega)) ⟨vp_in_nI (by omega) (by decide), vp_in_nI (by omega) (by decide), fun u hu => ?_⟩)
    rw [nI_clamp (by omega), F.1 163 i rfl] at hu
    rw [nI_1]
    refine w_se107 c16 h m (i + 1) u (by omega) (by rw [hu]; exact fr_wI F rfl) (fun j hj => ?_)
    rw [hu, rI_wI]
    by_cases z : j = i
    · rw [if_pos ⟨rfl, z⟩, z]
    · rw [if_neg (fun y => z y.2)]; exact g j (by omega)
theorem seF_sp {f : Nat → Nat} {ppl : Nat} : ∀ m r, seF f ppl m r = true → ∀ k, r ≤ k → k < r + m → f (3 * k) ≤ 30 ∧ f (3 * k + 1) < ppl ∧ f (3 * k + 2) ≤ 1
  | 0, r, h, k, a, b => by omega
  | m + 1, r, h, k, a, b => by
    unfold seF at h
    split at h
    · rename_i q
      by_cases z : k = r
      · subst z; omega
      · exact seF_sp m (r + 1) h k (by omega) (by omega)
    · cases h
theorem op_see {s : sT} (I : Inv s) : two Inv c11_see c12_see s := by
  obtain ⟨fin, most, ppl, bk, mi, L, lc, cc, w, κ, I⟩ := I
  obtain ⟨⟨-, ⟨n, hn, tC, tR, tb⟩, cR, -⟩, io, -, -, ix, -⟩ := id I
  obtain ⟨-, -, -, -, -, -, -, OC, OR, -⟩ := id io
  have o2 := OC.2.1
  obtain ⟨f, hf⟩ : ∃ f : Nat → Nat, ∀ k, k < 1600 → f k < 256 ∧ rI s 3 k = nI (f k) ∧ rI s 163 k = nI (f k) :=
    ⟨fun k => if h : k < 1600 then (tb k h).choose else 0, fun k hk => by
      have := (tb k hk).choose_spec
      dsimp only
      rw [dif_pos hk]
      exact this⟩
  -- both refuse
  have bad : ∀ u3, u3 = wI s 2 1 (0 : Int32) → (∀ s1, rI s1 162 1 = nI n → (∀ Q : Int32 → sT → Prop, c12_refuses 1 Q (wI s1 162 1 0) → Fr XE s s1 → c12_see Q s1)) → c11_refuse (1 : Int32) (fun r1 s1 => c12_see (fun r2 s2 => r1 = r2 ∧ Inv s2) s1) u3 := fun u3 hu3 hs => by
    refine refC (k := 1) (by decide) (hs _ ?_ _ (refR (k := 1) (by decide) ⟨rfl, ?_⟩) ?_)
    · rw [rI_wI, if_neg (by omega), hu3, rI_wI, if_neg (by omega)]; exact tR
    · rw [hu3]
      refine IA_E I (fr_wI (fr_wI (fr_wI (fr_wI fr_rf rfl) rfl) rfl) rfl) ⟨0, by omega, ?_, ?_, fun k hk => ⟨f k, (hf k hk).1, ?_, ?_⟩⟩ (fun k hk => ?_) (IX_fr (X := fun a j => Nat.beq a 1 || ((Nat.beq a 2 && Nat.beq j 1) || ((Nat.beq a 162 && Nat.beq j 1) || Nat.beq a 164))) (fr_wI (fr_wI (fr_wI (fr_wI fr_rf rfl) rfl) rfl) rfl) (fun a j q => ?_) ix)
      · simp [rI_wI]; rfl
      · simp [rI_wI]; rfl
      · simp [rI_wI]; exact (hf k hk).2.1
      · simp [rI_wI]; exact (hf k hk).2.2
      · have := cR k hk
        simp only [rI_wI]
        by_cases z : k = 1
        · subst z; simp [this]
        · simp [z, this]
      · unfold fIX at q
        rw [Bool.eq_false_iff]
        intro z
        simp only [Bool.or_eq_true, Bool.and_eq_true, Nat.beq_eq] at q z
        omega
    · rw [hu3]
      exact fr_wI (fr_wI fr_rf rfl) rfl
  by_cases ok : ∃ c, 1 ≤ c ∧ c ≤ 16 ∧ n = 3 * c
  · obtain ⟨c, c1, c16, rfl⟩ := ok
    have hd : nI (3 * c) / (3 : Int32) = nI c := by rw [show (3 : Int32) = nI 3 from rfl, pk_div (by omega) (by decide) (by decide), Nat.mul_div_cancel_left _ (by decide)]
    have hm : nI (3 * c) - nI (3 * c) / (3 : Int32) * (3 : Int32) = 0 := by
      rw [show (3 : Int32) = nI 3 from rfl, pk_rem (by omega) (by decide) (by decide), Nat.mul_mod_right]
      rfl
    have Rs : ∀ (s1 : sT) (Q : Int32 → sT → Prop), rI s1 162 1 = nI (3 * c) → Fr XE s s1 → (∀ k, k < 1600 → rI s1 163 k = rI s 163 k) → (seF f ppl c 0 = true → c12_see_107 (nI (3 * c)) 0 Q (wI s1 162 1 0)) → (seF f ppl c 0 = false → c12_refuses 1 Q (wI s1 162 1 0)) → c12_see Q s1 := fun s1 Q e F g h1 h2 => by
      refine e_c12_see (fun x hx u hu => ?_)
      rw [e] at hx
      rw [hx, hm, hd]
      refine br_t (nI_lt (a := 0) (by omega) (by omega)) (br_t rfl (br_f (nI_nlt (a := 16) (by omega) (by decide)) ?_))
      rw [hu]
      refine w_seR (f := f) (r := 0) c16 o2 (by rw [rI_wI, if_neg (by omega), F.1 _ _ rfl]; exact OR.2.2.2.2.1) (fun k hk => ⟨(hf k hk).1, by rw [rI_wI, if_neg (by omega), g k hk]; exact (hf k hk).2.2⟩) c (Nat.zero_add _) h1 h2
    refine e_c11_see (e_c5_seeTape (fun x hx => ?_))
    rw [tC, hd] at hx
    rw [hx]
    refine br_f (nI_nlt (b := 1) c1 (by omega)) (br_f (nI_nlt (a := 16) c16 (by decide)) (br_t (by rw [tC, show (3 : Int32) = nI 3 from rfl, pk_mul, Nat.mul_comm]) ?_))
    refine w_seC (f := f) (r := 0) c16 o2 tC OC.2.2.2.2.1 (fun k hk => ⟨(hf k hk).1, (hf k hk).2.1⟩) c (Nat.zero_add _) (fun q u3 h3 => br_f (neg1_ne (by omega)) ?_) (fun q u3 h3 => br_t rfl (bad u3 h3 (fun s1 e Q h F => ?_)))
    · have F3 : Fr XE s u3 := by rw [h3]; exact fr_wI (fr_wI (fr_wC fr_rf (fun _ => rfl)) rfl) rfl
      have e163 : ∀ k, rI u3 163 k = rI s 163 k := fun k => by rw [h3, rI_wI, if_neg (by omega), rI_wI, if_neg (by omega), rI_wC, if_neg (by omega)]
      refine Rs u3 _ (by rw [h3, rI_wI, if_neg (by omega), rI_wI, if_neg (by omega), rI_wC, if_neg (by omega)]; exact tR) F3 (fun k _ => e163 k) (fun _ => ?_) (fun z => by rw [q] at z; cases z)
      refine w_se107 c16 (fun s4 F4 g4 e4 => ⟨rfl, ?_⟩) (3 * c) 0 _ (Nat.zero_add _) fr_rf (fun j hj => absurd hj (Nat.not_lt_zero j))
      have F : Fr XE s s4 := fr_tr (fr_wI F3 rfl) (fr_mo F4 (fun a j q => by
        unfold X210 at q
        unfold XE
        simp only [Bool.or_eq_true, Bool.and_eq_true, Nat.beq_eq] at q ⊢
        omega))
      refine IA_E I F ⟨0, by omega, ?_, ?_, fun k hk => ⟨f k, (hf k hk).1, ?_, ?_⟩⟩ (fun k hk => ?_) ⟨c, c16, ?_, e4, fun r hr => ?_⟩
      · rw [F4.1 _ _ rfl, rI_wI, if_neg (by omega), h3, rI_wI, if_pos ⟨rfl, rfl⟩]; rfl
      · rw [F4.1 _ _ rfl, rI_wI, if_pos ⟨rfl, rfl⟩]; rfl
      · rw [F.1 _ _ rfl]; exact (hf k hk).2.1
      · rw [F.1 _ _ rfl]; exact (hf k hk).2.2
      · rw [F4.1 _ _ rfl, F4.1 _ _ rfl, rI_wI, if_neg (by omega), rI_wI, if_neg (by omega), h3, rI_wI, if_neg (by omega), rI_wI, if_neg (by omega), rI_wC, if_neg (by omega), rI_wI, if_neg (by omega), rI_wI, if_neg (by omega), rI_wC, if_neg (by omega)]
        exact cR k hk
      · rw [F4.1 _ _ rfl, rI_wI, if_neg (by omega), h3, rI_wI, if_neg (by omega), rI_wI, if_pos ⟨rfl, rfl⟩]
      · obtain ⟨x1, x2, x3⟩ := seF_sp c 0 q r (Nat.zero_le _) (by omega)
        have a155 : ∀ k, k < 3 * c → rI s4 155 k = nI (f k) := fun k hk => by
          rw [F4.1 _ _ rfl, rI_wI, if_neg (by omega), h3, rI_wI, if_neg (by omega), rI_wI, if_neg (by omega), rI_wC, if_pos rfl, cpy_r, if_pos hk, rA_r]
          exact (hf k (by omega)).2.1
        have a210 : ∀ k, k < 3 * c → rI s4 210 k = nI (f k) := fun k hk => by
          rw [g4 k hk, rI_wI, if_neg (by omega), e163]
          exact (hf k (by omega)).2.2
        exact ⟨f (3 * r), f (3 * r + 1), f (3 * r + 2), x1, x2, x3, a155 _ (by omega), a155 _ (by omega), a155 _ (by omega), a210 _ (by omega), a210 _ (by omega), a210 _ (by omega)⟩
    · exact Rs s1 Q e F (fun k _ => F.1 _ _ rfl) (fun z => by rw [q] at z; cases z) (fun _ => h)
  · have R : ∀ s1, rI s1 162 1 = nI n → (∀ Q : Int32 → sT → Prop, c12_refuses 1 Q (wI s1 162 1 0) → Fr XE s s1 → c12_see Q s1) := fun s1 e Q h F => by
      refine e_c12_see (fun x hx u hu => ?_)
      rw [e] at hx
      rw [hu]
      refine br_c (fun q0 => br_c (fun q1 => br_c (fun _ => w_seB h) (fun q2 => ?_)) (fun _ => w_seB h)) (fun _ => w_seB h)
      rw [hx] at q0 q1 q2
      rw [show (0 : Int32) = nI 0 from rfl, nI_ltI (by decide) (by omega)] at q0
      rw [show (3 : Int32) = nI 3 from rfl, pk_rem (by omega) (by decide) (by decide), show (0 : Int32) = nI 0 from rfl, nI_eq (by omega) (by decide)] at q1
      rw [show (3 : Int32) = nI 3 from rfl, pk_div (by omega) (by decide) (by decide), show (16 : Int32) = nI 16 from rfl, nI_ltI (by decide) (by omega)] at q2
      exact absurd ⟨n / 3, by omega, by omega, by omega⟩ ok
    refine e_c11_see (e_c5_seeTape (fun x hx => ?_))
    rw [tC, show (3 : Int32) = nI 3 from rfl, pk_div (by omega) (by decide) (by decide)] at hx
    have B : ∀ u3, u3 = wI s 2 1 (0 : Int32) → ((-1 : Int32) = (-1 : Int32) → c11_refuse (1 : Int32) (fun r1 s1 => c12_see (fun r2 s2 => r1 = r2 ∧ Inv s2) s1) u3) ∧ (¬ (-1 : Int32) = (-1 : Int32) → (fun r1 s1 => c12_see (fun r2 s2 => r1 = r2 ∧ Inv s2) s1) (-1) u3) := fun u3 h3 => br_t rfl (bad u3 h3 R)
    refine br_c (fun _ => B) (fun q1 => br_c (fun _ => B) (fun q2 => br_c (fun q3 => ?_) (fun _ => B)))
    rw [hx] at q1 q2 q3
    rw [show (1 : Int32) = nI 1 from rfl, nI_ltI (by omega) (by decide)] at q1
    rw [show (16 : Int32) = nI 16 from rfl, nI_ltI (by decide) (by omega)] at q2
    rw [tC, show (3 : Int32) = nI 3 from rfl, pk_mul, nI_eq (by omega) (by omega)] at q3
    exact absurd ⟨n / 3, by omega, by omega, by omega⟩ ok
