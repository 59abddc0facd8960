/-- the picture of numbers w: f behind the sizes up to n; behind the people up to p -/
def imS (w : Nat → Nat) : Nat → Nat → Nat → (Nat → Int32) → (Nat → Int32)
  | 0, _, _, f => f
  | m + 1, n, k, f => imS w m (n + 1) (k + 2) (two1 f k (nI (w n)))
def imP (w : Nat → Nat) : Nat → Nat → Nat → (Nat → Int32) → (Nat → Int32)
  | 0, _, _, f => f
  | m + 1, p, k, f => imP w m (p + 1) (k + 3) (two1 (up1 f k (nI (w (25 + 2 * p)))) (k + 1) (nI (w (26 + 2 * p))))
theorem w_imC2 {ppl : Nat} {w : Nat → Nat} {Q : Int32 → sT → Prop} {s0 : sT} (hP : rI s0 21 2 = nI ppl) (h6 : ppl ≤ 6) (W : StW s0 38 w) : ∀ m p k f s, p + m = ppl → k + 3 * m ≤ 68 → Fr XpC s0 s → pcA s 161 0 14 k f → (∀ s', Fr XpC s0 s' → pcA s' 161 0 14 (k + 3 * m + 1) (up1 (imP w m p k f) (k + 3 * m) (ckF (imP w m p k f) (k + 3 * m))) → Q (nI (k + 3 * m + 1)) s') → c11_image_50 (nI p) Q s
  | 0, p, k, f, s, e, hk, F, A, h => by
    have e : p = ppl := e
    subst e
    refine e_c11_image_50 (br_f (by rw [F.1 _ _ rfl, hP]; exact nI_nlt (Nat.le_refl _) (by omega)) (e_c10_checkOf ?_))
    rw [A.1]
    refine w_ckC (t := 161) (N := 69) (n := k) rfl (by decide) (by omega) ?_ k 0 (Nat.zero_add _)
    rw [ckF_cong (g := f) (fun i hi => A.2 i hi)]
    refine addB2 (by omega) F A (fun s1 F1 A1 => ?_)
    rw [A1.1]
    exact h s1 F1 A1
  | m + 1, p, k, f, s, e, hk, F, A, h => by
    have hp6 : p < 6 := by omega
    refine e_c11_image_50 (br_t (by rw [F.1 _ _ rfl, hP]; exact nI_lt (by omega) (by omega)) ⟨vp_in_nI hp6 (by decide), ?_⟩)
    rw [nI_clamp (by omega), F.1 _ _ rfl, W.2.2.2.1 p hp6]
    refine addB2 (by omega) F A (fun s1 F1 A1 => ⟨vp_in_nI hp6 (by decide), ?_⟩)
    rw [F1.1 _ _ rfl, W.2.2.2.2 p hp6]
    refine addT2 (by omega) F1 A1 (fun s2 F2 A2 => ?_)
    rw [nI_1]
    refine w_imC2 hP h6 W m (p + 1) (k + 3) _ s2 (by omega) (by omega) F2 A2 (fun s' F' A' => ?_)
    rw [show k + 3 * (m + 1) = k + 3 + 3 * m by omega] at h
    exact h s' F' A'
theorem w_imC1 {fin ppl : Nat} {w : Nat → Nat} {Q : Int32 → sT → Prop} {s0 : sT} (hF : rI s0 21 0 = nI fin) (h24 : fin ≤ 24) (hP : rI s0 21 2 = nI ppl) (h6 : ppl ≤ 6) (W : StW s0 38 w) (g : Nat → Int32) (h : ∀ s', Fr XpC s0 s' → pcA s' 161 0 14 (2 + 2 * fin + 3 * ppl + 1) (up1 (imP w ppl 0 (2 + 2 * fin) g) (2 + 2 * fin + 3 * ppl) (ckF (imP w ppl 0 (2 + 2 * fin) g) (2 + 2 * fin + 3 * ppl))) → Q (nI (2 + 2 * fin + 3 * ppl + 1)) s') : ∀ m n f s, n + m = fin + 1 → 1 ≤ n → Fr XpC s0 s → pcA s 161 0 14 (2 * n) f → imS w m n (2 * n) f = g → c11_image_18 (nI n) Q s
  | 0, n, f, s, e, hn, F, A, hg => by
    have e : n = fin + 1 := e
    subst e
    have hg : f = g := hg
    subst hg
    refine e_c11_image_18 (br_t (by rw [F.1 _ _ rfl, hF]; exact nI_lt (by omega) (by omega)) ?_)
    rw [show 2 * (fin + 1) = 2 + 2 * fin by omega] at A
    exact w_imC2 hP h6 W ppl 0 (2 + 2 * fin) f s (Nat.zero_add _) (by omega) F A h
  | m + 1, n, f, s, e, hn, F, A, hg => by
    refine e_c11_image_18 (br_f (by rw [F.1 _ _ rfl, hF]; exact nI_nlt (by omega) (by omega)) ⟨vp_in_nI (by omega) (by decide), ?_⟩)
    rw [nI_clamp (by omega), F.1 _ _ rfl, W.2.2.1 n hn (by omega)]
    refine addT2 (by omega) F A (fun s1 F1 A1 => ?_)
    rw [nI_1]
    exact w_imC1 hF h24 hP h6 W g h m (n + 1) _ s1 (by omega) (by omega) F1 (by rw [show 2 * (n + 1) = 2 * n + 2 by omega]; exact A1) (by rw [show 2 * (n + 1) = 2 * n + 2 by omega]; exact hg)
theorem w_imR2 {ppl : Nat} {w : Nat → Nat} {Q : Int32 → sT → Prop} {s0 : sT} (hP : rI s0 193 7 = nI ppl) (h6 : ppl ≤ 6) (N : NwW s0 w) : ∀ m p k f s, p + m = ppl → k + 3 * m ≤ 68 → Fr XpR s0 s → pcA s 240 162 111 k f → (∀ s', Fr XpR s0 s' → pcA s' 240 162 111 (k + 3 * m + 1) (up1 (imP w m p k f) (k + 3 * m) (ckF (imP w m p k f) (k + 3 * m))) → Q (nI (k + 3 * m + 1)) s') → c12_image_43 (nI p) Q s
  | 0, p, k, f, s, e, hk, F, A, h => by
    have e : p = ppl := e
    subst e
    refine e_c12_image_43 (e_c12_personMany (br_f (by rw [F.1 _ _ rfl, hP]; exact nI_nlt (Nat.le_refl _) (by omega)) (e_c12_checked ?_)))
    rw [A.1]
    refine w_ckR (t := 240) (N := 69) (n := k) rfl (by decide) (by omega) ?_ k 0 (Nat.zero_add _)
    rw [ckF_cong (g := f) (fun i hi => A.2 i hi)]
    refine wrB2 (by omega) F A (fun s1 F1 A1 => ?_)
    rw [A1.1]
    exact h s1 F1 A1
  | m + 1, p, k, f, s, e, hk, F, A, h => by
    have hp6 : p < 6 := by omega
    refine e_c12_image_43 (e_c12_personMany (br_t (by rw [F.1 _ _ rfl, hP]; exact nI_lt (by omega) (by omega)) (e_c12_hungerOf ?_)))
    rw [vHun, nI_clamp (by omega), F.1 _ _ rfl, N _ (by omega)]
    refine ⟨vp_in_nI (by omega) (by decide), wrB2 (by omega) F A (fun s1 F1 A1 => e_c12_timesOf ?_)⟩
    rw [vTim, nI_clamp (by omega), F1.1 _ _ rfl, N _ (by omega)]
    refine ⟨vp_in_nI (by omega) (by decide), wrT2 (by omega) F1 A1 (fun s2 F2 A2 => ?_)⟩
    rw [nI_1]
    refine w_imR2 hP h6 N m (p + 1) (k + 3) _ s2 (by omega) (by omega) F2 A2 (fun s' F' A' => ?_)
    rw [show k + 3 * (m + 1) = k + 3 + 3 * m by omega] at h
    exact h s' F' A'
theorem w_imR1 {fin ppl : Nat} {w : Nat → Nat} {Q : Int32 → sT → Prop} {s0 : sT} (hF : rI s0 193 5 = nI fin) (h24 : fin ≤ 24) (hP : rI s0 193 7 = nI ppl) (h6 : ppl ≤ 6) (N : NwW s0 w) (g : Nat → Int32) (h : ∀ s', Fr XpR s0 s' → pcA s' 240 162 111 (2 + 2 * fin + 3 * ppl + 1) (up1 (imP w ppl 0 (2 + 2 * fin) g) (2 + 2 * fin + 3 * ppl) (ckF (imP w ppl 0 (2 + 2 * fin) g) (2 + 2 * fin + 3 * ppl))) → Q (nI (2 + 2 * fin + 3 * ppl + 1)) s') : ∀ m n f s, n + m = fin + 1 → 1 ≤ n → Fr XpR s0 s → pcA s 240 162 111 (2 * n) f → imS w m n (2 * n) f = g → c12_image_17 (nI n) Q s
  | 0, n, f, s, e, hn, F, A, hg => by
    have e : n = fin + 1 := e
    subst e
    have hg : f = g := hg
    subst hg
    refine e_c12_image_17 (e_c12_finest (br_t (by rw [F.1 _ _ rfl, hF]; exact nI_lt (by omega) (by omega)) ?_))
    rw [show 2 * (fin + 1) = 2 + 2 * fin by omega] at A
    exact w_imR2 hP h6 N ppl 0 (2 + 2 * fin) f s (Nat.zero_add _) (by omega) F A h
  | m + 1, n, f, s, e, hn, F, A, hg => by
    refine e_c12_image_17 (e_c12_finest (br_f (by rw [F.1 _ _ rfl, hF]; exact nI_nlt (by omega) (by omega)) ⟨vp_in_nI (by omega) (by decide), ?_⟩))
    rw [nI_clamp (by omega), F.1 _ _ rfl, N n (by omega)]
    refine wrT2 (by omega) F A (fun s1 F1 A1 => ?_)
    rw [nI_1]
    exact w_imR1 hF h24 hP h6 N g h m (n + 1) _ s1 (by omega) (by omega) F1 (by rw [show 2 * (n + 1) = 2 * n + 2 by omega]; exact A1) (by rw [show 2 * (n + 1) = 2 * n + 2 by omega]; exact hg)
def Xp (a j : Nat) : Bool := XpC a j || XpR a j
theorem Inv_Xp {s t : sT} (I : Inv s) (h : Fr Xp s t) (hp : IP t) : Inv t := by
  obtain ⟨fin, most, ppl, bk, mi, L, lc, cc, w, κ, ⟨c1, c2, c3, c4, c5, c6⟩, i1, i2, i3, i4, i5⟩ := I
  have o : ∀ f : Nat → Nat → Bool, (∀ j, f 161 j = false) → f 0 14 = false → (∀ j, f 240 j = false) → f 162 111 = false → off f Xp := fun f a b c d x y q => by
    unfold Xp XpC XpR
    rw [Bool.eq_false_iff]
    intro z
    simp only [Bool.or_eq_true, Bool.and_eq_true, Nat.beq_eq] at z
    rcases z with (rfl | ⟨rfl, rfl⟩) | (rfl | ⟨rfl, rfl⟩)
    · rw [a] at q; cases q
    · rw [b] at q; cases q
    · rw [c] at q; cases q
    · rw [d] at q; cases q
  exact ⟨fin, most, ppl, bk, mi, L, lc, cc, w, κ, ⟨IC_fr h (o _ (fun _ => rfl) rfl (fun _ => rfl) rfl) c1, IT_fr h (o _ (fun _ => rfl) rfl (fun _ => rfl) rfl) c2, IR_fr h (o _ (fun _ => rfl) rfl (fun _ => rfl) rfl) c3, IF_fr h (o _ (fun _ => rfl) rfl (fun _ => rfl) rfl) c4, hp, IS_fr h (o _ (fun _ => rfl) rfl (fun _ => rfl) rfl) c6⟩, IO_fr h (o _ (fun _ => rfl) rfl (fun _ => rfl) rfl) i1, IN_fr h (o _ (fun _ => rfl) rfl (fun _ => rfl) rfl) i2, IH_fr h (o _ (fun _ => rfl) rfl (fun _ => rfl) rfl) i3, IX_fr h (o _ (fun _ => rfl) rfl (fun _ => rfl) rfl) i4, IK_fr h (o _ (fun _ => rfl) rfl (fun _ => rfl) rfl) i5⟩
theorem op_image {s : sT} (I : Inv s) : two Inv c11_image c12_image s := by
  have II := I
  obtain ⟨fin, most, ppl, bk, mi, L, lc, cc, w, κ, I⟩ := I
  obtain ⟨-, io, ⟨n1, n2, n3, n4, n5, n6, n7⟩, -⟩ := I
  obtain ⟨-, -, -, -, -, -, -, OC, OR, -⟩ := io
  have h24 := OC.1
  have h6 := OC.2.1
  refine e_c11_image (fun u hu => ?_)
  have F0 : Fr XpC s u := by rw [hu]; exact fr_wI fr_rf rfl
  have d0 : rI u 38 0 = nI (w 0) := by rw [F0.1 _ _ rfl]; exact n1.1
  rw [d0]
  refine addT2 (n := 0) (f := fun _ => 0) (by decide) F0 ⟨by rw [hu, rI_wI, if_pos ⟨rfl, rfl⟩]; rfl, fun k hk => by omega⟩ (fun s1 F1 A1 => ?_)
  refine w_imC1 OC.2.2.2.1 h24 OC.2.2.2.2.1 h6 n1 _ (fun s2 F2 A2 => ?_) fin 1 _ s1 (by omega) (by decide) F1 A1 rfl
  refine e_c12_image (fun t ht => ?_)
  have G0 : Fr XpR s2 t := by rw [ht]; exact fr_wI fr_rf rfl
  have N2 : NwW s2 w := fun k hk => by rw [F2.1 _ _ rfl]; exact n2 k hk
  have t0 : rI t 200 0 = nI (w 0) := by rw [G0.1 _ _ rfl]; exact N2 0 (by decide)
  rw [t0]
  refine wrT2 (n := 0) (f := fun _ => 0) (by decide) G0 ⟨by rw [ht, rI_wI, if_pos ⟨rfl, rfl⟩]; rfl, fun k hk => by omega⟩ (fun s3 F3 A3 => ?_)
  refine w_imR1 (by rw [F2.1 _ _ rfl]; exact OR.2.2.2.1) h24 (by rw [F2.1 _ _ rfl]; exact OR.2.2.2.2.1) h6 N2 _ (fun s4 F4 A4 => ⟨rfl, ?_⟩) fin 1 _ s3 (by omega) (by decide) F3 A3 rfl
  refine Inv_Xp II (fr_tr (fr_mo F2 fun a j q => by unfold Xp; rw [q]; rfl) (fr_mo F4 fun a j q => by unfold Xp; rw [q, Bool.or_true])) ⟨2 + 2 * fin + 3 * ppl + 1, by omega, ?_, A4.1, fun k hk => ?_⟩
  · rw [F4.1 _ _ rfl]; exact A2.1
  · rw [A4.2 k hk, F4.1 _ _ rfl]
    exact A2.2 k hk
