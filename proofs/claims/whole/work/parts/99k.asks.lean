-- what is asked of all people
def smF (e : Nat → Int) : Nat → Int
  | 0 => 0
  | m + 1 => smF e m + e m
def fsF (e : Nat → Int) : Nat → Int
  | 0 => -1
  | m + 1 => if fsF e m = -1 ∧ e m ≠ 0 then (m : Int) else fsF e m
def ltF (e : Nat → Int) : Nat → Int
  | 0 => -1
  | m + 1 => if e m ≠ 0 then (m : Int) else ltF e m
def mxF (e : Nat → Int) : Nat → Int
  | 0 => 0
  | m + 1 => if m = 0 then e 0 else if e m < mxF e m then mxF e m else e m
def mnF (e : Nat → Int) : Nat → Int
  | 0 => 0
  | m + 1 => if m = 0 then e 0 else if e m < mnF e m then e m else mnF e m
def asF (kind : Nat) (e : Nat → Int) (m : Nat) : Int := if kind = 0 then fsF e m else if kind = 1 then ltF e m else if kind ≤ 3 then smF e m else if kind = 4 then mxF e m else mnF e m
theorem fs_stay {e : Nat → Int} {j : Nat} (h : fsF e j ≠ -1) : ∀ k, fsF e (j + k) = fsF e j
  | 0 => rfl
  | k + 1 => by
    have ih := fs_stay h k
    show (if fsF e (j + k) = -1 ∧ e (j + k) ≠ 0 then ((j + k : Nat) : Int) else fsF e (j + k)) = fsF e j
    rw [ih, if_neg (fun y => h y.1)]
def bdS (e : Nat → Int) (m : Nat) : Prop := -1000000 * (m : Int) ≤ smF e m ∧ smF e m ≤ 1000000 * (m : Int)
theorem bdS_0 {e : Nat → Int} : bdS e 0 := by
  unfold bdS
  rw [show smF e 0 = 0 from rfl]
  omega
theorem tv_rg {z : Bool} {x : Int} (h : tv [z] [x]) : rg x := by
  cases z with
  | true =>
    have h1 : x = 0 ∨ x = 1 := h.1
    unfold rg
    omega
  | false => exact h.1
theorem bdS_s {e : Nat → Int} {m : Nat} {z : Bool} (h : bdS e m) (g : tv [z] [e m]) : bdS e (m + 1) := by
  have := tv_rg g
  obtain ⟨h1, h2⟩ := h
  unfold rg at this
  unfold bdS smF
  omega
/-- how a call of a person is answered, in the class: state out, state back -/
def anC (z : Bool) (ppl : Nat) (e : Nat → Int) (s0 : sT) : Prop := ∀ i, i < ppl → ∀ (s : sT) (Q : Int32 → sT → Prop), Fr XQc s0 s → (∀ s' r, Fr XQc s0 s' → r.toInt = e i → tv [z] [e i] → Q r s') → c11_answerOf (nI i) Q s
theorem r0 {r : Int32} : r = 0 ↔ r.toInt = 0 := by
  rw [fa_eq]
  exact Iff.rfl
theorem iL {v : Int64} {a : Int} (h : v.toInt = a) {u : Int64} (h2 : u.toInt = a) : v = u := (fa_eq64 _ _).2 (h.trans h2.symm)
theorem a_first {z : Bool} {ppl : Nat} {e : Nat → Int} {s0 : sT} {Q : Int64 → sT → Prop} (h6 : ppl ≤ 6) (hP : rI s0 21 2 = nI ppl) (A : anC z ppl e s0) (h : ∀ s' r, Fr XQc s0 s' → r.toInt = fsF e ppl → Q r s') : ∀ m i s, i + m = ppl → Fr XQc s0 s → fsF e i = -1 → c11_firstHolding_2 (nI i) Q s
  | 0, i, s, hi, F, g => by
    have hi : i = ppl := hi
    subst hi
    exact e_c11_firstHolding_2 (br_f (by rw [F.1 21 2 rfl, hP]; exact nI_nlt (Nat.le_refl _) (by omega)) (h s (-1) F (by rw [g]; rfl)))
  | m + 1, i, s, hi, F, g => by
    refine e_c11_firstHolding_2 (br_t (by rw [F.1 21 2 rfl, hP]; exact nI_lt (by omega) (by omega)) (A i (by omega) s _ F (fun s1 r F1 hr _ => ?_)))
    rw [r0, hr, nI_1]
    refine br_c (fun q => a_first h6 hP A h m (i + 1) s1 (by omega) F1 ?_) (fun q => h s1 _ F1 ?_)
    · unfold fsF
      rw [if_neg (fun y => y.2 q)]
      exact g
    · have e1 : fsF e (i + 1) = i := by
        unfold fsF
        rw [if_pos ⟨g, q⟩]
      have := fs_stay (e := e) (j := i + 1) (by rw [e1]; omega) m
      rw [show i + 1 + m = ppl by omega, e1] at this
      rw [wide, nI_toInt (by omega), this]
theorem a_last {z : Bool} {ppl : Nat} {e : Nat → Int} {s0 : sT} {Q : Int64 → sT → Prop} (h6 : ppl ≤ 6) (A : anC z ppl e s0) : ∀ m s, m ≤ ppl → Fr XQc s0 s → (∀ s' r, Fr XQc s0 s' → r.toInt = ltF e m → Q r s') → c11_lastHolding_10 (cV m) Q s
  | 0, s, hm, F, h => e_c11_lastHolding_10 (br_t (by decide) (h s (-1) F rfl))
  | m + 1, s, hm, F, h => by
    rw [cV_s]
    refine e_c11_lastHolding_10 (br_f (nI_pos (by omega)) (A m (by omega) s _ F (fun s1 r F1 hr _ => ?_)))
    rw [r0, hr]
    unfold ltF at h
    refine br_c (fun q => ?_) (fun q => h s1 _ F1 ?_)
    · rw [if_neg (fun y => y q)] at h
      exact a_last h6 A m s1 (by omega) F1 h
    · rw [if_pos q, wide, nI_toInt (by omega)]
theorem a_sum {z : Bool} {ppl : Nat} {e : Nat → Int} {s0 : sT} {Q : Int64 → sT → Prop} (h6 : ppl ≤ 6) (hP : rI s0 21 2 = nI ppl) (A : anC z ppl e s0) (h : ∀ s' r, Fr XQc s0 s' → r.toInt = smF e ppl → Q r s') : ∀ m i s v, i + m = ppl → Fr XQc s0 s → v.toInt = smF e i → bdS e i → c11_sumOfAll_4 v (nI i) Q s
  | 0, i, s, v, hi, F, g, bb => by
    have hi : i = ppl := hi
    subst hi
    exact e_c11_sumOfAll_4 (br_f (by rw [F.1 21 2 rfl, hP]; exact nI_nlt (Nat.le_refl _) (by omega)) (h s v F g))
  | m + 1, i, s, v, hi, F, g, bb => by
    refine e_c11_sumOfAll_4 (br_t (by rw [F.1 21 2 rfl, hP]; exact nI_lt (by omega) (by omega)) (A i (by omega) s _ F (fun s1 r F1 hr1 ht x hx => ?_)))
    rw [nI_1]
    have b1 := bb
    unfold bdS at b1
    have b2 := tv_rg ht
    unfold rg at b2
    refine a_sum h6 hP A h m (i + 1) s1 x (by omega) F1 ?_ (bdS_s bb ht)
    rw [hx, fb_addL (by rw [g, wide, hr1]; omega) (by rw [g, wide, hr1]; omega), g, wide, hr1]
    rfl
theorem a_most {z : Bool} {ppl : Nat} {e : Nat → Int} {s0 : sT} {Q : Int64 → sT → Prop} (h6 : ppl ≤ 6) (hP : rI s0 21 2 = nI ppl) (A : anC z ppl e s0) (h : ∀ s' r, Fr XQc s0 s' → r.toInt = mxF e ppl → Q r s') : ∀ m i s v, i + m = ppl → Fr XQc s0 s → v.toInt = mxF e i → c11_greatestOfAll_4 v (nI i) Q s
  | 0, i, s, v, hi, F, g => by
    have hi : i = ppl := hi
    subst hi
    exact e_c11_greatestOfAll_4 (br_f (by rw [F.1 21 2 rfl, hP]; exact nI_nlt (Nat.le_refl _) (by omega)) (h s v F g))
  | m + 1, i, s, v, hi, F, g => by
    refine e_c11_greatestOfAll_4 (br_t (by rw [F.1 21 2 rfl, hP]; exact nI_lt (by omega) (by omega)) (A i (by omega) s _ F (fun s1 r F1 hr1 _ x hx => ?_)))
    have hx : x.toInt = e i := by rw [hx, wide, hr1]
    have hz : nI i = (0 : Int32) ↔ i = 0 := nI_eq (b := 0) (by omega) (by decide)
    rw [hz, nI_1]
    refine br_c (fun q => a_most h6 hP A h m (i + 1) s1 x (by omega) F1 ?_) (fun q => a_most h6 hP A h m (i + 1) s1 _ (by omega) F1 ?_)
    · unfold mxF
      rw [if_pos q, hx, q]
    · unfold mxF
      rw [if_neg q]
      by_cases y : e i < mxF e i
      · rw [if_pos y, if_pos ((fa_lt64 _ _).2 (by rw [hx, g]; exact y)), g]
      · rw [if_neg y, if_neg (fun z => y (by rw [fa_lt64, hx, g] at z; exact z)), hx]
theorem a_least {z : Bool} {ppl : Nat} {e : Nat → Int} {s0 : sT} {Q : Int64 → sT → Prop} (h6 : ppl ≤ 6) (hP : rI s0 21 2 = nI ppl) (A : anC z ppl e s0) (h : ∀ s' r, Fr XQc s0 s' → r.toInt = mnF e ppl → Q r s') : ∀ m i s v, i + m = ppl → Fr XQc s0 s → v.toInt = mnF e i → c11_leastOfAll_4 v (nI i) Q s
  | 0, i, s, v, hi, F, g => by
    have hi : i = ppl := hi
    subst hi
    exact e_c11_leastOfAll_4 (br_f (by rw [F.1 21 2 rfl, hP]; exact nI_nlt (Nat.le_refl _) (by omega)) (h s v F g))
  | m + 1, i, s, v, hi, F, g => by
    refine e_c11_leastOfAll_4 (br_t (by rw [F.1 21 2 rfl, hP]; exact nI_lt (by omega) (by omega)) (A i (by omega) s _ F (fun s1 r F1 hr1 _ x hx => ?_)))
    have hx : x.toInt = e i := by rw [hx, wide, hr1]
    have hz : nI i = (0 : Int32) ↔ i = 0 := nI_eq (b := 0) (by omega) (by decide)
    rw [hz, nI_1]
    refine br_c (fun q => a_least h6 hP A h m (i + 1) s1 x (by omega) F1 ?_) (fun q => a_least h6 hP A h m (i + 1) s1 _ (by omega) F1 ?_)
    · unfold mnF
      rw [if_pos q, hx, q]
    · unfold mnF
      rw [if_neg q]
      by_cases y : e i < mnF e i
      · rw [if_pos y, if_pos ((fa_lt64 _ _).2 (by rw [hx, g]; exact y)), hx]
      · rw [if_neg y, if_neg (fun z => y (by rw [fa_lt64, hx, g] at z; exact z)), g]
/-- the class answers -/
theorem a_all {z : Bool} {ppl kind : Nat} {e : Nat → Int} {s0 : sT} {Q : Int64 → sT → Prop} (h6 : ppl ≤ 6) (hk : kind < 6) (hP : rI s0 21 2 = nI ppl) (A : anC z ppl e s0) (h : ∀ s' r, Fr XQc s0 s' → r.toInt = asF kind e ppl → Q r s') : (nI (kind + 1) = (1 : Int32) → c11_firstHolding Q s0) ∧ (¬ nI (kind + 1) = (1 : Int32) → (nI (kind + 1) = (2 : Int32) → c11_lastHolding Q s0) ∧ (¬ nI (kind + 1) = (2 : Int32) → (nI (kind + 1) = (3 : Int32) → c11_sumOfAll Q s0) ∧ (¬ nI (kind + 1) = (3 : Int32) → (nI (kind + 1) = (4 : Int32) → c11_sumOfAll Q s0) ∧ (¬ nI (kind + 1) = (4 : Int32) → (nI (kind + 1) = (5 : Int32) → c11_greatestOfAll Q s0) ∧ (¬ nI (kind + 1) = (5 : Int32) → (nI (kind + 1) = (6 : Int32) → c11_leastOfAll Q s0) ∧ (¬ nI (kind + 1) = (6 : Int32) → Q (-1000000000000000 : Int64) s0)))))) := by
  have cs : kind = 0 ∨ kind = 1 ∨ kind = 2 ∨ kind = 3 ∨ kind = 4 ∨ kind = 5 := by omega
  rcases cs with rfl | rfl | rfl | rfl | rfl | rfl
  · exact br_t rfl (e_c11_firstHolding (a_first h6 hP A h ppl 0 s0 (Nat.zero_add _) fr_rf rfl))
  · refine br_f (by decide) (br_t rfl (e_c11_lastHolding (fun x hx => ?_)))
    rw [hP, Int32.sub_eq_add_neg] at hx
    rw [hx]
    exact a_last h6 A ppl s0 (Nat.le_refl _) fr_rf h
  · exact br_f (by decide) (br_f (by decide) (br_t rfl (e_c11_sumOfAll (a_sum h6 hP A h ppl 0 s0 0 (Nat.zero_add _) fr_rf rfl bdS_0))))
  · exact br_f (by decide) (br_f (by decide) (br_f (by decide) (br_t rfl (e_c11_sumOfAll (a_sum h6 hP A h ppl 0 s0 0 (Nat.zero_add _) fr_rf rfl bdS_0)))))
  · exact br_f (by decide) (br_f (by decide) (br_f (by decide) (br_f (by decide) (br_t rfl (e_c11_greatestOfAll (a_most h6 hP A h ppl 0 s0 0 (Nat.zero_add _) fr_rf rfl))))))
  · exact br_f (by decide) (br_f (by decide) (br_f (by decide) (br_f (by decide) (br_f (by decide) (br_t rfl (e_c11_leastOfAll (a_least h6 hP A h ppl 0 s0 0 (Nat.zero_add _) fr_rf rfl)))))))
-- the reference answers
def XQr (a j : Nat) : Bool := Nat.beq a 239 || (Nat.beq a 162 && (Nat.beq j 61 || (Nat.beq j 107 || (Nat.beq j 108 || Nat.beq j 109))))
/-- the answer till now -/
def asR (s : sT) (kind : Nat) (e : Nat → Int) (i : Nat) : Prop := (rJ s 162 108).toInt = asF kind e i ∧ rI s 162 109 = if i = 0 then 1 else 0
theorem r_qTakes {z0 : Bool} {kind i ppl : Nat} {e : Nat → Int} {v : Int64} {Q : sT → Prop} {s : sT} (hk : kind < 6) (h6 : ppl ≤ 6) (hi : i < ppl) (hz : tv [z0] [e i]) (hkz : kind < 3 → z0 = true) (bs : bdS e i) (hv : v.toInt = e i) (R : asR s kind e i) (h : ∀ s', Fr XQr s s' → asR s' kind e (i + 1) → Q s') : c12_qTakes (nI kind) v (nI i) Q s := by
  obtain ⟨r1, r2⟩ := R
  have b2 := tv_rg hz
  unfold rg at b2
  unfold bdS at bs
  have T1 : kind < 3 → e i = 0 ∨ e i = 1 := fun q => by
    have := hkz q
    subst this
    exact hz.1
  -- the ends
  have e90 : ∀ u, Fr XQr s u → rI u 162 109 = (if i = 0 then 1 else 0) → (kind < 4 → (rJ u 162 108).toInt = asF kind e (i + 1)) → (¬ kind < 4 → (rJ u 162 108).toInt = asF kind e i) → c12_qTakes_90 (nI kind) v Q u := by
    intro u F u9 a4 a5
    refine e_c12_qTakes_90 ?_
    rw [show (3 : Int32) = nI 3 from rfl, nI_ltI (by decide) (by omega), show (4 : Int32) = nI 4 from rfl, nI_eq (by omega) (by decide)]
    have fin9 : ∀ w t : sT, Fr XQr s w → t = wI w 162 109 (0 : Int32) → (rJ w 162 108).toInt = asF kind e (i + 1) → Q t := fun w t Fw ht hw => h t (by rw [ht]; exact fr_wI Fw rfl) ⟨by rw [ht]; exact hw, by rw [ht, rI_wI, if_pos ⟨rfl, rfl⟩, if_neg (by omega)]⟩
    have up : ∀ w t : sT, w = wJ u 162 108 v → t = wI w 162 109 (0 : Int32) → e i = asF kind e (i + 1) → Q t := fun w t hw ht ea => fin9 w t (by rw [hw]; exact fr_wJ F rfl) ht (by rw [hw, rJ_wJ, if_pos ⟨rfl, rfl⟩, hv]; exact ea)
    refine br_c (fun k4 => ?_) (fun k4 => fun t ht => fin9 u t F ht (a4 (by omega)))
    have g := a5 (by omega)
    have k45 : kind = 4 ∨ kind = 5 := by omega
    rw [u9]
    by_cases z : i = 0
    · rw [if_pos z]
      refine br_f (by decide) (fun w hw t ht => up w t hw ht ?_)
      rcases k45 with rfl | rfl
      · show e i = mxF e (i + 1)
        unfold mxF
        rw [if_pos z, z]
      · show e i = mnF e (i + 1)
        unfold mnF
        rw [if_pos z, z]
    · rw [if_neg z]
      refine br_t rfl ?_
      rcases k45 with rfl | rfl
      · have g : (rJ u 162 108).toInt = mxF e i := g
        refine br_t rfl ?_
        rw [fa_lt64, g, hv]
        refine br_c (fun y w hw t ht => up w t hw ht ?_) (fun y t ht => fin9 u t F ht ?_)
        · show e i = mxF e (i + 1)
          unfold mxF
          rw [if_neg z, if_neg (by omega)]
        · show _ = mxF e (i + 1)
          unfold mxF
          rw [if_neg z, g]
          split <;> omega
      · have g : (rJ u 162 108).toInt = mnF e i := g
        refine br_f (by decide) ?_
        rw [fa_lt64, g, hv]
        refine br_c (fun y w hw t ht => up w t hw ht ?_) (fun y t ht => fin9 u t F ht ?_)
        · show e i = mnF e (i + 1)
          unfold mnF
          rw [if_neg z, if_pos y]
        · show _ = mnF e (i + 1)
          unfold mnF
          rw [if_neg z, if_neg y, g]
  -- sums
  have e55 : ∀ u (k0 : Int32), Fr XQr s u → rI u 162 109 = (if i = 0 then 1 else 0) → (kind < 3 → (k0 = 0 ∧ e i = 0) ∨ (k0 = 1 ∧ e i = 1)) → (kind < 2 → (rJ u 162 108).toInt = asF kind e (i + 1)) → (¬ kind < 2 → (rJ u 162 108).toInt = asF kind e i) → c12_qTakes_55 (nI kind) v k0 Q u := by
    intro u k0 F u9 hk0 a2 a3
    refine e_c12_qTakes_55 ?_
    rw [show (2 : Int32) = nI 2 from rfl, show (3 : Int32) = nI 3 from rfl, nI_eq (by omega) (by decide), nI_eq (by omega) (by decide)]
    refine br_c (fun q => ?_) (fun q => br_c (fun q2 t ht => ?_) (fun q2 => e90 u F u9 (fun _ => a2 (by omega)) (fun y => a3 (by omega))))
    · subst q
      have g : (rJ u 162 108).toInt = smF e i := a3 (by decide)
      rcases hk0 (by decide) with ⟨y1, y2⟩ | ⟨y1, y2⟩
      · refine br_t y1 (br_f (by decide) (e90 u F u9 (fun _ => ?_) (fun y => absurd (by decide) y)))
        show _ = smF e (i + 1)
        unfold smF
        rw [g, y2, Int.add_zero]
      · refine br_f (by rw [y1]; decide) (fun t ht => br_f (by decide) (e90 t (by rw [ht]; exact fr_wJ F rfl) (by rw [ht]; exact u9) (fun _ => ?_) (fun y => absurd (by decide) y)))
        show _ = smF e (i + 1)
        unfold smF
        have l1 : (1 : Int64).toInt = 1 := rfl
        rw [ht, rJ_wJ, if_pos ⟨rfl, rfl⟩, fb_addL (by rw [g, l1]; omega) (by rw [g, l1]; omega), g, l1, y2]
    · subst q2
      have g : (rJ u 162 108).toInt = smF e i := a3 (by decide)
      refine e90 t (by rw [ht]; exact fr_wJ F rfl) (by rw [ht]; exact u9) (fun _ => ?_) (fun y => absurd (by decide) y)
      show _ = smF e (i + 1)
      unfold smF
      rw [ht, rJ_wJ, if_pos ⟨rfl, rfl⟩, fb_addL (by rw [g, hv]; omega) (by rw [g, hv]; omega), g, hv]
  have e16 : ∀ k0 : Int32, (kind < 3 → (k0 = 0 ∧ e i = 0) ∨ (k0 = 1 ∧ e i = 1)) → (¬ kind < 3 → k0 = 0) → c12_qTakes_16 (nI kind) v (nI i) k0 Q s := by
    intro k0 hk0 hk3
    have wi : (Int32.toInt64 (nI i)).toInt = (i : Int) := by rw [wide, nI_toInt (by omega)]
    refine e_c12_qTakes_16 ?_
    have z0 : nI kind = (0 : Int32) ↔ kind = 0 := nI_eq (b := 0) (by omega) (by decide)
    have z1 : nI kind = (1 : Int32) ↔ kind = 1 := nI_eq (b := 1) (by omega) (by decide)
    rw [z0, z1]
    refine br_c (fun q => ?_) (fun q => br_c (fun q1 => ?_) (fun q1 => e55 s k0 fr_rf r2 hk0 (fun y => by omega) (fun _ => r1)))
    · subst q
      have g : (rJ s 162 108).toInt = fsF e i := r1
      have ex : (if fsF e i = -1 ∧ e i ≠ 0 then (i : Int) else fsF e i) = asF 0 e (i + 1) := rfl
      rcases hk0 (by decide) with ⟨y1, y2⟩ | ⟨y1, y2⟩
      · refine br_t y1 (br_f (by decide) (e55 s k0 fr_rf r2 hk0 (fun _ => ?_) (fun y => absurd (by decide) y)))
        rw [← ex, if_neg (fun z => z.2 y2), g]
      · refine br_f (by rw [y1]; decide) ?_
        have hm : rJ s 162 108 = (-1 : Int64) ↔ fsF e i = -1 := by
          rw [fa_eq64, g]
          exact Iff.rfl
        rw [hm]
        refine br_c (fun z t ht => e55 t k0 (by rw [ht]; exact fr_wJ fr_rf rfl) (by rw [ht]; exact r2) hk0 (fun _ => ?_) (fun y => absurd (by decide) y)) (fun z => br_f (by decide) (e55 s k0 fr_rf r2 hk0 (fun _ => ?_) (fun y => absurd (by decide) y)))
        · rw [← ex, if_pos ⟨z, by omega⟩, ht, rJ_wJ, if_pos ⟨rfl, rfl⟩, wi]
        · rw [← ex, if_neg (fun t => z t.1), g]
    · subst q1
      have g : (rJ s 162 108).toInt = ltF e i := r1
      have ex : (if e i ≠ 0 then (i : Int) else ltF e i) = asF 1 e (i + 1) := rfl
      rcases hk0 (by decide) with ⟨y1, y2⟩ | ⟨y1, y2⟩
      · refine br_t y1 (e55 s k0 fr_rf r2 hk0 (fun _ => ?_) (fun y => absurd (by decide) y))
        rw [← ex, if_neg (fun z => z y2), g]
      · refine br_f (by rw [y1]; decide) (fun t ht => e55 t k0 (by rw [ht]; exact fr_wJ fr_rf rfl) (by rw [ht]; exact r2) hk0 (fun _ => ?_) (fun y => absurd (by decide) y))
        rw [← ex, if_pos (by omega), ht, rJ_wJ, if_pos ⟨rfl, rfl⟩, wi]
  refine e_c12_qTakes ?_
  rw [show (3 : Int32) = nI 3 from rfl, nI_ltI (by omega) (by decide)]
  have hv1 : v = (1 : Int64) ↔ e i = 1 := by
    rw [fa_eq64, hv]
    exact Iff.rfl
  rw [hv1]
  refine br_c (fun q => br_c (fun y => e16 1 (fun _ => Or.inr ⟨rfl, y⟩) (fun z => absurd q z)) (fun y => e16 0 (fun _ => Or.inl ⟨rfl, ?_⟩) (fun z => absurd q z))) (fun q => e16 0 (fun z => absurd z q) (fun _ => rfl))
  rcases T1 q with z | z
  · exact z
  · exact absurd z y
/-- how a person answers, in the reference -/
def anR (z : Bool) (ppl : Nat) (e : Nat → Int) (s0 : sT) : Prop := ∀ i, i < ppl → ∀ (s : sT) (Q : Int64 → sT → Prop), Fr XQr s0 s → rI s 162 61 = nI i → (∀ s' r, Fr (fun a j => Nat.beq a 239 || (Nat.beq a 162 && Nat.beq j 107)) s s' → r.toInt = e i → tv [z] [e i] → Q r s') → c12_qTold (nI i) Q s
theorem r_asks188 {z : Bool} {ppl kind : Nat} {e : Nat → Int} {s0 : sT} {Q : Int64 → sT → Prop} (h6 : ppl ≤ 6) (hk : kind < 6) (hP : rI s0 193 7 = nI ppl) (A : anR z ppl e s0) (hkz : kind < 3 → z = true) (h : ∀ s' r, Fr XQr s0 s' → r.toInt = asF kind e ppl → Q r s') : ∀ m i s, i + m = ppl → Fr XQr s0 s → asR s kind e i → bdS e i → c12_ask_188 (nI kind) (nI i) Q s
  | 0, i, s, hi, F, R, bb => by
    have hi : i = ppl := hi
    subst hi
    exact e_c12_ask_188 (e_c12_personMany (br_f (by rw [F.1 193 7 rfl, hP]; exact nI_nlt (Nat.le_refl _) (by omega)) (h s _ F R.1)))
  | m + 1, i, s, hi, F, R, bb => by
    refine e_c12_ask_188 (e_c12_personMany (br_t (by rw [F.1 193 7 rfl, hP]; exact nI_lt (by omega) (by omega)) (fun u hu => ?_)))
    have Fu : Fr XQr s0 u := by rw [hu]; exact fr_wI F rfl
    refine A i (by omega) u _ Fu (by rw [hu, rI_wI, if_pos ⟨rfl, rfl⟩]) (fun s1 r F1 hr ht => ?_)
    have F1' : Fr XQr u s1 := fr_mo F1 (fun a j q => by
      unfold XQr
      simp only [Bool.or_eq_true, Bool.and_eq_true, Nat.beq_eq] at *
      omega)
    have R1 : asR s1 kind e i := by
      refine ⟨?_, ?_⟩
      · rw [F1.2.1 162 108 rfl, hu]
        exact R.1
      · rw [F1.1 162 109 rfl, hu, rI_wI, if_neg (by omega)]
        exact R.2
    refine r_qTakes hk h6 (by omega) ht hkz bb hr R1 (fun s2 F2 R2 => ?_)
    rw [nI_1]
    exact r_asks188 h6 hk hP A hkz h m (i + 1) s2 (by omega) (fr_tr Fu (fr_tr F1' F2)) R2 (bdS_s bb ht)
