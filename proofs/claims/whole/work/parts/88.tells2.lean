theorem nI_nm {n : Nat} (h : n < 2147483648) : ¬ nI n = (-1 : Int32) := fun q => by
  have := congrArg Int32.toInt q
  rw [nI_toInt h, show (-1 : Int32).toInt = -1 from rfl] at this
  omega
def XV (a j : Nat) : Bool := Nat.beq a 147 && Nat.ble 9 j
theorem xz_v {a j : Nat} (h : XV a j = true) : Xz a j = true := by
  unfold XV at h
  simp only [Bool.and_eq_true, Nat.beq_eq, Nat.ble_eq] at h
  unfold Xz
  simp only [Bool.or_eq_true, Bool.and_eq_true, Nat.beq_eq, Nat.ble_eq]
  omega
/-- what the class holds as the best till now -/
def teC (s : sT) (T : Nat) (z : Nat × Nat × Nat) : Prop := rI s 147 11 = nI z.2.2 ∧ (z.2.2 ≤ T → rI s 147 9 = nI z.1 ∧ rI s 147 10 = nI z.2.1)
theorem w_teP {hb : Nat → Bool} {bb : Nat → Nat → Nat} {D d ppl : Nat} {Q : Int32 → sT → Prop} {X : Int32 → Int32 → Int32 → Int32 → sT → Prop} {s0 : sT} (T : seenT s0 156 bb D 31 0) (hd : d < D) (hD : D ≤ 31) (h6 : ppl ≤ 6) (hP : rI s0 21 2 = nI ppl) (hbb : ∀ n k, bb n k < 2 ^ 6) (v2 : Int32) : ∀ m p z s, p + m = ppl → Fr XV s0 s → teC s (fb_ct hb 31) z → z.2.2 ≤ 32 → (∀ s', Fr XV s0 s' → teC s' (fb_ct hb 31) (teP (mxA hb bb) d m p z) → X v2 (nI (mB hb 31)) (nI (fb_ct hb 31)) (nI (d + 1)) s') → c5_findTelling_74 v2 (nI (mB hb 31)) (nI (fb_ct hb 31)) (nI d) (nI p) Q X s
  | 0, p, z, s, e, F, K, hz, h => by
    have e : p = ppl := e
    subst e
    refine e_c5_findTelling_74 (br_f (by rw [F.1 _ _ rfl, hP]; exact nI_nlt (Nat.le_refl _) (by omega)) ?_)
    rw [nI_1]
    exact h s F K
  | m + 1, p, z, s, e, F, K, hz, h => by
    have hle := cA_le (hb := hb) (bb := bb) (d := d) (p := p) (n := 31)
    have hle2 := fb_ct_le hb 31
    have hm := mxA_le (hb := hb) (bb := bb) (d := d) (p := p)
    have Ts : seenT s 156 bb D 31 0 := fun n' d' a1 a2 a3 => by rw [F.1 _ _ rfl]; exact T n' d' a1 a2 a3
    refine e_c5_findTelling_74 (br_t (by rw [F.1 _ _ rfl, hP]; exact nI_lt (by omega) (by omega)) (w_servedBy Ts hd hD (by omega) hbb (fun x hx => ?_)))
    have ex : x = nI (mxA hb bb d p) := by
      rw [hx, pk_sub hle]
      unfold mxA
      by_cases q : cA hb bb d p 31 < fb_ct hb 31 - cA hb bb d p 31
      · rw [if_pos q, if_pos ((nI_ltI (by omega) (by omega)).2 q)]
      · rw [if_neg q, if_neg (fun y => q ((nI_ltI (by omega) (by omega)).1 y))]
    rw [ex, K.1, nI_ltI (by omega) (by omega), nI_1]
    unfold teP at h
    refine br_c (fun q u4 hu4 u5 hu5 u6 hu6 => ?_) (fun q => ?_)
    · rw [if_pos q] at h
      refine w_teP T hd hD h6 hP hbb v2 m (p + 1) _ u6 (by omega) ?_ ⟨?_, fun _ => ⟨?_, ?_⟩⟩ (by show mxA hb bb d p ≤ 32; omega) h
      · rw [hu6, hu5, hu4]
        exact fr_wI (fr_wI (fr_wI F rfl) rfl) rfl
      · rw [hu6, rI_wI, if_pos ⟨rfl, rfl⟩]
      · rw [hu6, rI_wI, if_neg (by omega), hu5, rI_wI, if_neg (by omega), hu4, rI_wI, if_pos ⟨rfl, rfl⟩]
      · rw [hu6, rI_wI, if_neg (by omega), hu5, rI_wI, if_pos ⟨rfl, rfl⟩]
    · rw [if_neg q] at h
      exact w_teP T hd hD h6 hP hbb v2 m (p + 1) z s (by omega) F K hz h
theorem w_teD {hb : Nat → Bool} {bb : Nat → Nat → Nat} {D ppl : Nat} {Q : Int32 → sT → Prop} {s0 : sT} (T : seenT s0 156 bb D 31 0) (hD : D ≤ 31) (h6 : ppl ≤ 6) (hP : rI s0 21 2 = nI ppl) (hbb : ∀ n k, bb n k < 2 ^ 6) : ∀ m d z s, d + m = D → Fr XV s0 s → teC s (fb_ct hb 31) z → z.2.2 ≤ 32 → (∀ s', Fr XV s0 s' → teC s' (fb_ct hb 31) (teD (mxA hb bb) ppl m d z) → Q 1 s') → c5_findTelling_65 (nI D) (nI (mB hb 31)) (nI (fb_ct hb 31)) (nI d) Q s
  | 0, d, z, s, e, F, K, hz, h => by
    have e : d = D := e
    subst e
    exact e_c5_findTelling_65 (br_f (nI_nlt (Nat.le_refl _) (by omega)) (h s F K))
  | m + 1, d, z, s, e, F, K, hz, h => by
    refine e_c5_findTelling_65 (br_t (nI_lt (by omega) (by omega)) ?_)
    refine w_teP T (by omega) hD h6 hP hbb (nI D) ppl 0 z s (Nat.zero_add _) F K hz (fun s' F' K' => ?_)
    exact w_teD T hD h6 hP hbb m (d + 1) _ s' (by omega) F' K' (Nat.le_trans (teP_le _ _ _) hz) h
/-- what the reference holds as the best till now -/
def teR (T : Nat) (z : Nat × Nat × Nat) (v4 v5 v6 : Int32) : Prop := (z.2.2 = T + 1 ∧ v4 = -1) ∨ (z.2.2 ≤ T ∧ z.1 < 32 ∧ v4 = nI z.1 ∧ v5 = nI z.2.1 ∧ v6 = nI z.2.2)
theorem w_tePR {hb : Nat → Bool} {bb : Nat → Nat → Nat} {d ppl : Nat} {Q : Int32 → sT → Prop} {X : Int32 → Int32 → Int32 → Int32 → Int32 → Int32 → sT → Prop} {s : sT} (T : seenT s 211 bb 31 31 0) (hd : d < 31) (h6 : ppl ≤ 6) (hP : rI s 193 7 = nI ppl) (hbb : ∀ n k, bb n k < 2 ^ 6) (v2 : Int32) : ∀ m p z v4 v5 v6, p + m = ppl → teR (fb_ct hb 31) z v4 v5 v6 → (∀ v4 v5 v6, teR (fb_ct hb 31) (teP (mxA hb bb) d m p z) v4 v5 v6 → X v2 (nI (mB hb 31)) v4 v5 v6 (nI (d + 1)) s) → c12_tells_70 v2 (nI (mB hb 31)) v4 v5 v6 (nI d) (nI p) Q X s
  | 0, p, z, v4, v5, v6, e, K, h => by
    have e : p = ppl := e
    subst e
    refine e_c12_tells_70 (e_c12_personMany (br_f (by rw [hP]; exact nI_nlt (Nat.le_refl _) (by omega)) ?_))
    rw [nI_1]
    exact h _ _ _ K
  | m + 1, p, z, v4, v5, v6, e, K, h => by
    have hle2 := fb_ct_le hb 31
    have hm := mxA_le (hb := hb) (bb := bb) (d := d) (p := p)
    refine e_c12_tells_70 (e_c12_personMany (br_t (by rw [hP]; exact nI_lt (by omega) (by omega)) (w_mostAlike T hd (by omega) hbb ?_)))
    rw [nI_1]
    unfold teP at h
    rcases K with ⟨k1, rfl⟩ | ⟨k1, k0, rfl, rfl, rfl⟩
    · rw [if_pos (by omega)] at h
      exact br_t rfl (w_tePR T hd h6 hP hbb v2 m (p + 1) _ _ _ _ (by omega) (Or.inr ⟨hm, by show d < 32; omega, rfl, rfl, rfl⟩) h)
    · refine br_f (nI_nm (by omega)) ?_
      rw [nI_ltI (by omega) (by omega)]
      refine br_c (fun q => ?_) (fun q => ?_)
      · rw [if_pos q] at h
        exact w_tePR T hd h6 hP hbb v2 m (p + 1) _ _ _ _ (by omega) (Or.inr ⟨hm, by show d < 32; omega, rfl, rfl, rfl⟩) h
      · rw [if_neg q] at h
        exact w_tePR T hd h6 hP hbb v2 m (p + 1) _ _ _ _ (by omega) (Or.inr ⟨k1, k0, rfl, rfl, rfl⟩) h
/-- the answer of the best -/
def teA (z : Nat × Nat × Nat) (T k : Nat) : Int32 := if T < z.2.2 then -1 else if k = 0 then nI z.1 else if k = 1 then nI z.2.1 else nI z.2.2
theorem w_teDR {hb : Nat → Bool} {bb : Nat → Nat → Nat} {w0 ppl k : Nat} {Q : Int32 → sT → Prop} {s : sT} (T : seenT s 211 bb 31 31 0) (h0 : w0 ≤ 999) (hd0 : rI s 200 0 = nI w0) (h6 : ppl ≤ 6) (hP : rI s 193 7 = nI ppl) (hbb : ∀ n k, bb n k < 2 ^ 6) (hk : k < 3) (hS : mB hb 31 ≠ 0) : ∀ m d z v4 v5 v6, d + m = cmF w0 → teR (fb_ct hb 31) z v4 v5 v6 → Q (teA (teD (mxA hb bb) ppl m d z) (fb_ct hb 31) k) s → c12_tells_41 (nI k) (nI (mB hb 31)) v4 v5 v6 (nI d) Q s
  | 0, d, z, v4, v5, v6, e, K, h => by
    have hS2 := mB_lt hb 31
    have hle2 := fb_ct_le hb 31
    refine e_c12_tells_41 (br_f (nI_ne0 (by omega) (by omega)) ?_)
    have ans : (v4 = (-1 : Int32) → Q (-1 : Int32) s) ∧ (¬ v4 = (-1 : Int32) → (nI k = 0 → Q v4 s) ∧ (¬ nI k = 0 → (nI k = (1 : Int32) → Q v5 s) ∧ (¬ nI k = (1 : Int32) → Q v6 s))) := by
      unfold teD teA at h
      rcases K with ⟨k1, rfl⟩ | ⟨k1, k0, rfl, rfl, rfl⟩
      · rw [if_pos (by omega)] at h
        exact br_t rfl h
      · rw [if_neg (by omega)] at h
        refine br_f (nI_nm (by omega)) ?_
        have c : k = 0 ∨ k = 1 ∨ k = 2 := by omega
        rcases c with rfl | rfl | rfl
        · exact br_t rfl h
        · exact br_f (by decide) (br_t rfl h)
        · exact br_f (by decide) (br_f (by decide) h)
    have e : d = cmF w0 := e
    unfold cmF at e
    by_cases q : 999 - w0 < 31
    · rw [if_pos q] at e
      refine br_f (nI_nlt (a := 30) (by omega) (by decide)) (br_f ?_ ans)
      rw [hd0, nI_add]
      exact nI_nlt (b := 999) (by omega) (by omega)
    · rw [if_neg q] at e
      rw [e]
      exact br_t (by decide) ans
  | m + 1, d, z, v4, v5, v6, e, K, h => by
    have hS2 := mB_lt hb 31
    have hcm : d < 31 ∧ w0 + d < 999 := by
      unfold cmF at e
      split at e <;> omega
    refine e_c12_tells_41 (br_f (nI_ne0 (by omega) (by omega)) (br_f (nI_nlt (a := 30) (by omega) (by decide)) (br_t ?_ ?_)))
    · rw [hd0, nI_add]
      exact nI_lt (b := 999) (by omega) (by decide)
    · exact w_tePR T hcm.1 h6 hP hbb (nI k) ppl 0 z v4 v5 v6 (Nat.zero_add _) K (fun v4 v5 v6 K' => w_teDR T h0 hd0 h6 hP hbb hk hS m (d + 1) _ v4 v5 v6 (by omega) K' h)
theorem w_findT {fin ppl bk z c : Nat} {L : Nat → List Nat} {lc : List Nat} {w : Nat → Nat} {d p b : Nat → Nat} {Q : Int32 → sT → Prop} {s : sT} (C : OCc s fin ppl bk L lc) (W : StW s 38 w) (hV : wV fin ppl w) (K : K148 s) (hz : 1 ≤ z ∧ z ≤ fin) (hc : c ≤ 16) (h7 : rI s 147 7 = nI c) (R : IXd s ppl c d p b) (h0 : ∀ s', Fr (fun a j => XW a j || XV a j) s s' → K148 s' → (cmF (w 0) < 1 ∨ ppl < 1 ∨ mB (hbF c (bbF L lc ppl bk z w) (w 0) d p b) 31 = 0) → Q 0 s') (h1 : ∀ s', Fr (fun a j => XW a j || XV a j) s s' → K148 s' → 1 ≤ cmF (w 0) → 1 ≤ ppl → mB (hbF c (bbF L lc ppl bk z w) (w 0) d p b) 31 ≠ 0 → teC s' (fb_ct (hbF c (bbF L lc ppl bk z w) (w 0) d p b) 31) (teD (mxA (hbF c (bbF L lc ppl bk z w) (w 0) d p b) (bbF L lc ppl bk z w)) ppl (cmF (w 0)) 0 (0, 0, fb_ct (hbF c (bbF L lc ppl bk z w) (w 0) d p b) 31 + 1)) → Q 1 s') : c5_findTelling (nI z) Q s := by
  have o2 := C.2.1
  have hw0 := hV.1 0
  have hd30 : ∀ r, r < c → d r ≤ 30 := fun r hr => (R r hr).1
  have hD31 : lsD d c 0 0 ≤ 31 := lsD_le c 0 0 (by decide) (fun k _ q => by have := hd30 k (by omega); omega)
  have hcm : cmF (w 0) ≤ 31 := by unfold cmF; split <;> omega
  have hle : w 0 + cmF (w 0) ≤ 999 := by unfold cmF; split <;> omega
  refine e_c5_findTelling (w_coming hw0 W.1 ?_)
  rw [show (1 : Int32) = nI 1 from rfl, nI_ltI (by omega) (by decide)]
  refine br_c (fun q => h0 s fr_rf K (Or.inl q)) (fun q => ?_)
  refine w_lastDay hc h7 R (fun y hy => ?_)
  have el : y < nI (cmF (w 0)) ↔ ¬ cmF (w 0) < lsD d c 0 0 := by
    rw [fa_lt, hy, nI_toInt (by omega)]
    omega
  rw [el]
  refine br_c (fun q2 => ?_) (fun q2 => h0 s fr_rf K (Or.inr (Or.inr (mB_zero (fun n => hb_late hw0 hd30 (Classical.not_not.1 q2) n) 31))))
  rw [C.2.2.2.2.1, nI_ltI (by omega) (by decide)]
  refine br_c (fun q3 => h0 s fr_rf K (Or.inr (Or.inl q3))) (fun q3 => ?_)
  refine w_watchC C hV W hcm hle hz K (fun s' F K' T => w_setC (b := b) (p := p) (d := d) o2 hc (by rw [F.1 _ _ rfl]; exact h7) (fun r hr => ?_) (fun r hr => ?_) (fun n k => ?_) T (hb_in (bb := bbF L lc ppl bk z w) (p := p) (b := b) hw0 q2) ?_)
  · obtain ⟨a1, a2, a3, b1, b2, b3⟩ := R r hr
    exact ⟨a1, a2, a3, by rw [F.1 _ _ rfl]; exact b1, by rw [F.1 _ _ rfl]; exact b2, by rw [F.1 _ _ rfl]; exact b3⟩
  · have := (lsD_ge (d := d) c 0 0).2 r (by omega) (by omega)
    omega
  · exact sv_lt o2
  · have hS2 := mB_lt (hbF c (bbF L lc ppl bk z w) (w 0) d p b) 31
    have hle2 := fb_ct_le (hbF c (bbF L lc ppl bk z w) (w 0) d p b) 31
    have F' : Fr (fun a j => XW a j || XV a j) s s' := fr_mo F (fun a j q => by simp only [q, Bool.true_or])
    have hz0 : nI (mB (hbF c (bbF L lc ppl bk z w) (w 0) d p b) 31) = (0 : Int32) ↔ mB (hbF c (bbF L lc ppl bk z w) (w 0) d p b) 31 = 0 := by
      rw [show (0 : Int32) = nI 0 from rfl]
      exact nI_eq (by omega) (by decide)
    rw [hz0]
    refine br_c (fun q4 => h0 s' F' K' (Or.inr (Or.inr q4))) (fun q4 => w_bitCL hS2 (fun u hu => ?_))
    rw [mB_ct, nI_add] at hu
    have Fu : Fr XV s' u := by rw [hu]; exact fr_wI fr_rf rfl
    rw [mB_ct]
    refine w_teD (fun n' d' a1 a2 a3 => by rw [Fu.1 _ _ rfl]; exact T n' d' a1 a2 a3) hcm o2 (by rw [Fu.1 _ _ rfl, F.1 _ _ rfl]; exact C.2.2.2.2.1) (fun n k => sv_lt o2) (cmF (w 0)) 0 (0, 0, _) u (Nat.zero_add _) fr_rf ⟨by rw [hu, rI_wI, if_pos ⟨rfl, rfl⟩], fun y => by dsimp only at y; omega⟩ (by show fb_ct _ 31 + 1 ≤ 32; omega) (fun s2 F2 K2 => h1 s2 ?_ ?_ (by omega) (by omega) q4 K2)
    · exact fr_tr F' (fr_mo (fr_tr Fu F2) (fun a j q => by simp only [q, Bool.or_true]))
    · exact k148_fr (fr_tr Fu F2) (fun a j z => by rcases z with rfl | rfl <;> rfl) K'
theorem teD_none {f : Nat → Nat → Nat} : ∀ m d z, teD f 0 m d z = z
  | 0, _, _ => rfl
  | m + 1, d, z => teD_none m (d + 1) z
theorem op_tells {s : sT} (v v2 : Int32) (I : Inv s) : two Inv (c11_tells v v2) (c12_tells v v2) s := by
  obtain ⟨fin, most, ppl, bk, mi, L, lc, cc, w, κ, I⟩ := I
  obtain ⟨-, io, ⟨n1, n2, n3, n4, n5, n6, n7⟩, -, ix, -⟩ := id I
  obtain ⟨-, -, -, -, -, -, -, OC, OR, -⟩ := id io
  have h24 := OC.1
  have o2 := OC.2.1
  have hw0 := n3.1 0
  have II := IA_Inv I
  obtain ⟨c, d, p, b, hc, h7, h7r, Rd, Re⟩ := IX_d o2 ix
  by_cases hv : ∃ n, 1 ≤ n ∧ n ≤ fin ∧ v = nI n
  · obtain ⟨z, z1, z2, rfl⟩ := hv
    refine e_c11_tells (sizC_t OC.2.2.2.1 h24 z1 z2 (yes1 ?_))
    by_cases hk : ∃ k, k < 3 ∧ v2 = nI k
    · obtain ⟨k, hk, rfl⟩ := hk
      -- the reference, behind the class
      have ref : ∀ (A : Int32) s1, Fr (fun a j => XW a j || XV a j) s s1 → K148 s1 → A = (if mB (hbF c (bbF L lc ppl bk z w) (w 0) d p b) 31 = 0 then -1 else teA (teD (mxA (hbF c (bbF L lc ppl bk z w) (w 0) d p b) (bbF L lc ppl bk z w)) ppl (cmF (w 0)) 0 (0, 0, fb_ct (hbF c (bbF L lc ppl bk z w) (w 0) d p b) 31 + 1)) (fb_ct (hbF c (bbF L lc ppl bk z w) (w 0) d p b) 31) k) → c12_tells (nI z) (nI k) (fun r2 s2 => A = r2 ∧ Inv s2) s1 := fun A s1 F1 K1 hA => by
        have xx : ∀ a j, a ≠ 31 → a ≠ 146 → (a < 147 ∨ 152 < a) → a ≠ 156 → (fun a j => XW a j || XV a j) a j = false := fun a j p q r x => by
          show (XW a j || XV a j) = false
          rw [xw_f (by omega) q p x, Bool.false_or, Bool.eq_false_iff]
          unfold XV
          simp only [Bool.and_eq_true, Nat.beq_eq, ne_eq]
          omega
        have r1 : ∀ a j, a ≠ 31 → a ≠ 146 → (a < 147 ∨ 152 < a) → a ≠ 156 → rI s1 a j = rI s a j := fun a j p q r x => F1.1 _ _ (xx a j p q r x)
        have OR1 : OCr s1 fin ppl bk L lc := OCr_fr F1 (fun a j q => xx a j (by omega) (by omega) (by omega) (by omega)) OR
        refine e_c12_tells (sizR_t OR1.2.2.2.1 h24 z1 z2 (yes1 (isIn_t ?_ (yes1 (w_stockR (d := d) (p := p) (b := b) (hb := hbF c (bbF L lc ppl bk z w) (w 0) d p b) OR1 n3 (fun k hk => by rw [r1 _ _ (by omega) (by omega) (by omega) (by omega)]; exact n2 k hk) hc (by rw [r1 _ _ (by omega) (by omega) (by omega) (by omega)]; exact h7r) (fun r hr => ?_) ⟨z1, z2⟩ (fun n => hbF_iff) (fun s2 F2 N2 t2 g2 k2 T2 => ?_))))))
        · rw [wide, L0, nI_toInt (by omega)]
          exact ⟨by omega, by show (k : Int) ≤ 2; omega⟩
        · obtain ⟨a1, a2, a3, b1, b2, b3⟩ := Re r hr
          exact ⟨a1, a2, a3, by rw [r1 _ _ (by omega) (by omega) (by omega) (by omega)]; exact b1, by rw [r1 _ _ (by omega) (by omega) (by omega) (by omega)]; exact b2, by rw [r1 _ _ (by omega) (by omega) (by omega) (by omega)]; exact b3⟩
        · have I2 : Inv s2 := by
            refine IA_Inv (IA_z I (fr_tr (fr_mo F1 fun a j q => ?_) F2) N2 (fun j hj => ?_) t2 ?_)
            · rw [Bool.or_eq_true] at q
              rcases q with q | q
              · exact xz_w q
              · exact xz_v q
            · rw [g2 j hj, r1 _ _ (by omega) (by omega) (by omega) (by omega)]
            · obtain ⟨κ', a, b, f, c, d, e⟩ := K1
              exact ⟨κ', by rw [k2 _ _ (by omega)]; exact a, b, f, c, by rw [k2 _ _ (by omega)]; exact d, fun k hk j hj => by rw [k2 _ _ (by omega)]; exact e k hk j hj⟩
          show c12_tells_41 (nI k) (nI (mB (hbF c (bbF L lc ppl bk z w) (w 0) d p b) 31)) (-1) (-1) 0 0 (fun r2 s2 => A = r2 ∧ Inv s2) s2
          by_cases q : mB (hbF c (bbF L lc ppl bk z w) (w 0) d p b) 31 = 0
          · rw [if_pos q] at hA
            rw [q, hA]
            exact e_c12_tells_41 (br_t rfl (br_t rfl ⟨rfl, I2⟩))
          · rw [if_neg q] at hA
            rw [hA]
            exact w_teDR T2 hw0 (N2 0 (by decide)) o2 (by rw [k2 _ _ (by omega), r1 _ _ (by omega) (by omega) (by omega) (by omega)]; exact OR.2.2.2.2.1) (fun n k => sv_lt o2) hk q (cmF (w 0)) 0 (0, 0, _) (-1) (-1) 0 (Nat.zero_add _) (Or.inl ⟨rfl, rfl⟩) ⟨rfl, I2⟩
      refine br_f (nI_pos (by omega)) (br_f (nI_nlt (a := 2) (by omega) (by decide)) (w_findT OC n1 n3 n7 ⟨z1, z2⟩ hc h7 Rd (fun s1 F1 K1 q => no0 (ref _ s1 F1 K1 ?_)) (fun s1 F1 K1 q1 q2 q3 K => yes1 ?_)))
      · by_cases q3 : mB (hbF c (bbF L lc ppl bk z w) (w 0) d p b) 31 = 0
        · rw [if_pos q3]
        · rw [if_neg q3]
          have e : (teD (mxA (hbF c (bbF L lc ppl bk z w) (w 0) d p b) (bbF L lc ppl bk z w)) ppl (cmF (w 0)) 0 (0, 0, fb_ct (hbF c (bbF L lc ppl bk z w) (w 0) d p b) 31 + 1)) = (0, 0, fb_ct (hbF c (bbF L lc ppl bk z w) (w 0) d p b) 31 + 1) := by
            rcases q with q | q | q
            · rw [show cmF (w 0) = 0 by omega]
              rfl
            · rw [show ppl = 0 by omega]
              exact teD_none _ _ _
            · exact absurd q q3
          rw [e]
          unfold teA
          rw [if_pos (by show fb_ct _ 31 < fb_ct _ 31 + 1; omega)]
      · have hT := teD_at (T := fb_ct (hbF c (bbF L lc ppl bk z w) (w 0) d p b) 31) (z := (0, 0, fb_ct (hbF c (bbF L lc ppl bk z w) (w 0) d p b) 31 + 1)) (m := cmF (w 0)) (mxA_le (hb := hbF c (bbF L lc ppl bk z w) (w 0) d p b) (bb := bbF L lc ppl bk z w) (d := 0) (p := 0)) q2 q1
        obtain ⟨c11, c90⟩ := K
        obtain ⟨c9, c10⟩ := c90 hT
        have fin' : ∀ A, A = teA (teD (mxA (hbF c (bbF L lc ppl bk z w) (w 0) d p b) (bbF L lc ppl bk z w)) ppl (cmF (w 0)) 0 (0, 0, fb_ct (hbF c (bbF L lc ppl bk z w) (w 0) d p b) 31 + 1)) (fb_ct (hbF c (bbF L lc ppl bk z w) (w 0) d p b) 31) k → c12_tells (nI z) (nI k) (fun r2 s2 => A = r2 ∧ Inv s2) s1 := fun A hA => ref A s1 F1 K1 (by rw [if_neg q3]; exact hA)
        unfold teA at fin'
        rw [if_neg (by omega)] at fin'
        have cs : k = 0 ∨ k = 1 ∨ k = 2 := by omega
        rcases cs with rfl | rfl | rfl
        · exact br_f (by decide) (br_t rfl (fin' _ c9))
        · exact br_f (by decide) (br_f (by decide) (fin' _ c10))
        · exact br_t rfl (fin' _ c11)
    · have h := no_k hk
      have rn : c12_tells (nI z) v2 (fun r2 s2 => -1 = r2 ∧ Inv s2) s := e_c12_tells (sizR_t OR.2.2.2.1 h24 z1 z2 (yes1 (isIn_f (by
        rw [wide, L0]
        show ¬ (0 ≤ v2.toInt ∧ v2.toInt ≤ 2)
        omega) (no0 ⟨rfl, II⟩))))
      refine br_c (fun _ => rn) (fun q => br_t ?_ rn)
      rw [fa_lt, l0] at q
      rw [fa_lt]
      show 2 < v2.toInt
      omega
  · exact e_c11_tells (sizC_f OC.2.2.2.1 h24 hv (no0 (e_c12_tells (sizR_f OR.2.2.2.1 h24 hv (no0 ⟨rfl, II⟩)))))
