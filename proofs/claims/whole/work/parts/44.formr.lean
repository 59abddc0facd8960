-- the reference reckons a formula
def wD (s : sT) (a : Nat) (f : Nat → Int64) : sT := (s.1, up1 s.2.1 a f, s.2.2)
def rP (s : sT) (f : Nat → Int64) (n : Nat) : sT := wI (wD s 239 f) 162 107 (nI n)
theorem rI_wD (s : sT) (a : Nat) (f : Nat → Int64) (b k : Nat) : rI (wD s a f) b k = rI s b k := rfl
theorem rJ_wD (s : sT) (a : Nat) (f : Nat → Int64) (b k : Nat) : rJ (wD s a f) b k = if b = a then f k else rJ s b k := by
  show up1 s.2.1 a f b k = if b = a then f k else s.2.1 b k
  unfold up1
  by_cases h : b = a
  · simp [h]
  · simp [h]
theorem rI_rP (s : sT) (f : Nat → Int64) (n a k : Nat) : rI (rP s f n) a k = if a = 162 ∧ k = 107 then nI n else rI s a k := by
  unfold rP
  rw [rI_wI, rI_wD]
theorem rP_n (s : sT) (f : Nat → Int64) (n : Nat) : rI (rP s f n) 162 107 = nI n := by rw [rI_rP, if_pos ⟨rfl, rfl⟩]
theorem rP_f (s : sT) (f : Nat → Int64) (n k : Nat) : rJ (rP s f n) 239 k = f k := by
  unfold rP
  rw [rJ_wI, rJ_wD, if_pos rfl]
theorem rP_wJ (s : sT) (f : Nat → Int64) (n k : Nat) (v : Int64) : wJ (rP s f n) 239 k v = rP s (up1 f k v) n := by
  refine st_ext (fun a j => ?_) (fun a j => ?_) rfl
  · rw [rI_wJ, rI_rP, rI_rP]
  · unfold rP
    rw [rJ_wJ, rJ_wI, rJ_wI, rJ_wD, rJ_wD]
    unfold up1
    by_cases h : a = 239
    · by_cases h2 : j = k
      · simp [h, h2]
      · simp [h, h2]
    · simp [h]
theorem rP_wI (s : sT) (f : Nat → Int64) (n m : Nat) : wI (rP s f n) 162 107 (nI m) = rP s f m := by
  refine st_ext (fun a j => ?_) (fun a j => ?_) rfl
  · rw [rI_wI, rI_rP, rI_rP]
    by_cases h : a = 162 ∧ j = 107
    · rw [if_pos h, if_pos h]
    · rw [if_neg h, if_neg h, if_neg h]
  · rfl
theorem w_puts {v : Int64} {n : Nat} {f : Nat → Int64} {Q : sT → Prop} {s : sT} (hn : n < 1700) (h : Q (rP s (up1 f n v) (n + 1))) : c12_qPuts v Q (rP s f n) := by
  refine e_c12_qPuts ⟨?_, fun u hu w hw => ?_⟩
  · rw [rP_n]; exact vp_in_nI hn (by decide)
  · rw [rP_n, nI_clamp (by omega), rP_wJ] at hu
    subst hu
    rw [rP_n, nI_1, rP_wI] at hw
    subst hw
    exact h
theorem w_clip {v : Int64} {Q : Int64 → sT → Prop} {s : sT} (h : ∀ r : Int64, r.toInt = clip v.toInt → Q r s) : c12_qClip v Q s := by
  have e1 : ((1000000 : Int64)).toInt = 1000000 := rfl
  have e2 : ((-1000000 : Int64)).toInt = -1000000 := rfl
  refine e_c12_qClip (br_c (fun q => h _ ?_) (fun q => br_c (fun q2 => h _ ?_) (fun q2 => h _ ?_)))
  · rw [fa_lt64, e1] at q
    unfold clip; rw [if_pos q]; rfl
  · rw [fa_lt64, e1] at q
    rw [fa_lt64, e2] at q2
    unfold clip; rw [if_neg q, if_pos q2]; rfl
  · rw [fa_lt64, e1] at q
    rw [fa_lt64, e2] at q2
    unfold clip; rw [if_neg q, if_neg q2]
theorem clip_of {v : Int} (h : rg v) : clip v = v := by
  unfold clip
  have := h.1
  have := h.2
  rw [if_neg (by omega), if_neg (by omega)]
theorem w_floorL {a b : Int64} {Q : Int64 → sT → Prop} {s : sT} (ha : rg a.toInt) (hb : rg b.toInt) (h : ∀ r : Int64, r.toInt = (if b.toInt = 0 then 0 else a.toInt.fdiv b.toInt) → Q r s) : c12_qFloor a b Q s := by
  have z0 : ((0 : Int64)).toInt = 0 := rfl
  refine e_c12_qFloor (br_c (fun q => h _ ?_) (fun q => ⟨q, fun x e => ⟨q, ?_⟩⟩))
  · rw [if_pos (by rw [q]; rfl)]; rfl
  have h0 : b.toInt ≠ 0 := fun z => q ((fa_eq64 b 0).2 z)
  rw [if_neg h0] at h
  have hx : x.toInt = a.toInt.tdiv b.toInt := by
    rw [e]
    have ham : a ≠ Int64.minValue := fun q => by
      have h1 := ha.1
      rw [q] at h1
      exact absurd h1 (by decide)
    exact Int64.toInt_div_of_ne_left a b ham
  have hF := fd_of h0 hx
  have hx2 : -1000000 ≤ x.toInt ∧ x.toInt ≤ 1000000 := by
    have h1 : (a.toInt.tdiv b.toInt).natAbs ≤ a.toInt.natAbs := by
      rw [Int.natAbs_tdiv]; exact Nat.div_le_self _ _
    have := ha.1
    have := ha.2
    omega
  have hxb : (x * b).toInt = x.toInt * b.toInt := by
    have e1 : (x.toInt * b.toInt).natAbs ≤ a.toInt.natAbs := by
      have h4 : (x.toInt * b.toInt).natAbs = (a.toInt.natAbs / b.toInt.natAbs) * b.toInt.natAbs := by rw [Int.natAbs_mul, hx, Int.natAbs_tdiv]; rfl
      rw [h4]
      exact Nat.div_mul_le_self _ _
    have := ha.1
    have := ha.2
    exact fb_mulL (by omega) (by omega)
  have hmb := mul_rg (a := x.toInt) ⟨hx2.1, hx2.2⟩ hb
  have hm : (a - x * b).toInt = a.toInt - x.toInt * b.toInt := by
    have := ha.1
    have := ha.2
    rw [fb_subL (by rw [hxb]; omega) (by rw [hxb]; omega), hxb]
  have hs1 : (x - 1).toInt = x.toInt - 1 := fb_subL (by show _ ≤ x.toInt - 1; omega) (by show x.toInt - 1 < _; omega)
  rw [← e]
  refine br_c (fun q1 => h _ ?_) (fun q1 => br_c (fun q2 => br_c (fun q3 => br_t rfl (h _ ?_)) (fun q3 => br_f (by decide) (h _ ?_))) (fun q2 => br_c (fun q3 => br_f (by decide) (h _ ?_)) (fun q3 => br_t rfl (h _ ?_))))
  · rw [fa_eq64, hm, z0] at q1
    rw [hF, if_neg (fun z => z.1 q1)]
  all_goals
    rw [fa_eq64, hm, z0] at q1
    rw [fa_lt64, z0] at q2 q3
  · rw [hF, if_neg (fun z => z.2 ⟨fun _ => q3, fun _ => q2⟩)]
  · rw [hF, if_pos ⟨q1, fun z => q3 (z.1 q2)⟩, hs1]
  · rw [hF, if_pos ⟨q1, fun z => q2 (z.2 q3)⟩, hs1]
  · rw [hF, if_neg (fun z => z.2 ⟨fun q => absurd q q2, fun q => absurd q q3⟩)]
theorem w_joinsL {c n : Nat} {f : Nat → Int64} {x y : Int} {Q : sT → Prop} {s : sT} (hn : n < 1600) (ha : (f n).toInt = x) (hb : (f (n + 1)).toInt = y) (hc : (1 ≤ c ∧ c ≤ 9 ∧ rg x ∧ rg y) ∨ ((c = 10 ∨ c = 11) ∧ (x = 0 ∨ x = 1) ∧ (y = 0 ∨ y = 1))) (h : ∀ r : Int64, r.toInt = jn c x y → Q (rP s (up1 f n r) (n + 1))) : c12_qJoins (nI c) Q (rP s f (n + 2)) := by
  subst ha
  subst hb
  have e1 : nI (n + 2) - (1 : Int32) = nI (n + 1) := nI_pred (n + 1)
  have e2 : nI (n + 2) - (2 : Int32) = nI n := pk_sub (a := n + 2) (b := 2) (by omega)
  refine e_c12_qJoins ?_
  rw [rP_n, e1, e2, nI_clamp (by omega), nI_clamp (by omega), rP_f, rP_f]
  refine ⟨vp_in_nI (by omega) (by decide), fun y hy => ⟨vp_in_nI (by omega) (by decide), fun x hx u hu => ?_⟩⟩
  rw [rP_wI] at hu
  subst hu
  subst hy
  subst hx
  have P : ∀ r : Int64, r.toInt = jn c (f n).toInt (f (n + 1)).toInt → c12_qPuts r Q (rP s f n) := fun r hr => w_puts (by omega) (h r hr)
  generalize f n = a at *
  generalize f (n + 1) = b at *
  have z0 : ((0 : Int64)).toInt = 0 := rfl
  rcases hc with ⟨h1, h2, ra, rb⟩ | ⟨h1, ra, rb⟩
  · have r1 := ra.1; have r2 := ra.2; have r3 := rb.1; have r4 := rb.2
    have k : c = 1 ∨ c = 2 ∨ c = 3 ∨ c = 4 ∨ c = 5 ∨ c = 6 ∨ c = 7 ∨ c = 8 ∨ c = 9 := by omega
    rcases k with rfl | rfl | rfl | rfl | rfl | rfl | rfl | rfl | rfl
    · refine br_t (by decide) (w_clip fun r hr => P r ?_)
      rw [hr, fb_addL (by omega) (by omega)]; rfl
    · refine br_f (by decide) (br_t (by decide) (w_clip fun r hr => P r ?_))
      rw [hr, fb_subL (by omega) (by omega)]; rfl
    · have m := mul_rg ra rb
      refine br_f (by decide) (br_f (by decide) (br_t (by decide) (w_clip fun r hr => P r ?_)))
      rw [hr, fb_mulL (by omega) (by omega)]; rfl
    · exact br_f (by decide) (br_f (by decide) (br_f (by decide) (br_t (by decide) (w_floorL ra rb (fun r hr => P r hr)))))
    · refine br_f (by decide) (br_f (by decide) (br_f (by decide) (br_f (by decide) (br_t (by decide) (br_c (fun q => P _ ?_) (fun q => P _ ?_))))))
      · show _ = if a.toInt < b.toInt then a.toInt else b.toInt
        rw [fa_lt64] at q; rw [if_pos q]
      · show _ = if a.toInt < b.toInt then a.toInt else b.toInt
        rw [fa_lt64] at q; rw [if_neg q]
    · refine br_f (by decide) (br_f (by decide) (br_f (by decide) (br_f (by decide) (br_f (by decide) (br_t (by decide) (br_c (fun q => P _ ?_) (fun q => P _ ?_)))))))
      · show _ = if b.toInt < a.toInt then a.toInt else b.toInt
        rw [fa_lt64] at q; rw [if_pos q]
      · show _ = if b.toInt < a.toInt then a.toInt else b.toInt
        rw [fa_lt64] at q; rw [if_neg q]
    · refine br_f (by decide) (br_f (by decide) (br_f (by decide) (br_f (by decide) (br_f (by decide) (br_f (by decide) (br_t (by decide) (br_c (fun q => P _ ?_) (fun q => P _ ?_))))))))
      · show _ = if a.toInt < b.toInt then (1 : Int) else 0
        rw [fa_lt64] at q; rw [if_pos q]; rfl
      · show _ = if a.toInt < b.toInt then (1 : Int) else 0
        rw [fa_lt64] at q; rw [if_neg q]; rfl
    · refine br_f (by decide) (br_f (by decide) (br_f (by decide) (br_f (by decide) (br_f (by decide) (br_f (by decide) (br_f (by decide) (br_t (by decide) (br_c (fun q => P _ ?_) (fun q => P _ ?_)))))))))
      · show _ = if b.toInt < a.toInt then (1 : Int) else 0
        rw [fa_lt64] at q; rw [if_pos q]; rfl
      · show _ = if b.toInt < a.toInt then (1 : Int) else 0
        rw [fa_lt64] at q; rw [if_neg q]; rfl
    · refine br_f (by decide) (br_f (by decide) (br_f (by decide) (br_f (by decide) (br_f (by decide) (br_f (by decide) (br_f (by decide) (br_f (by decide) (br_t (by decide) (br_c (fun q => P _ ?_) (fun q => P _ ?_))))))))))
      · show _ = if a.toInt = b.toInt then (1 : Int) else 0
        rw [fa_eq64] at q; rw [if_pos q]; rfl
      · show _ = if a.toInt = b.toInt then (1 : Int) else 0
        rw [fa_eq64] at q; rw [if_neg q]; rfl
  · have rga : rg a.toInt := by unfold rg; omega
    have rgb : rg b.toInt := by unfold rg; omega
    have m := mul_rg rga rgb
    rcases h1 with rfl | rfl
    · refine br_f (by decide) (br_f (by decide) (br_f (by decide) (br_f (by decide) (br_f (by decide) (br_f (by decide) (br_f (by decide) (br_f (by decide) (br_f (by decide) (br_t (by decide) (P _ ?_))))))))))
      rw [fb_mulL (by omega) (by omega)]; rfl
    · refine br_f (by decide) (br_f (by decide) (br_f (by decide) (br_f (by decide) (br_f (by decide) (br_f (by decide) (br_f (by decide) (br_f (by decide) (br_f (by decide) (br_f (by decide) (br_c (fun q => P _ ?_) (fun q => P _ ?_)))))))))))
      · rw [fa_lt64, z0, fb_addL (by omega) (by omega)] at q
        show _ = if 0 < a.toInt + b.toInt then (1 : Int) else 0
        rw [if_pos q]; rfl
      · rw [fa_lt64, z0, fb_addL (by omega) (by omega)] at q
        show _ = if 0 < a.toInt + b.toInt then (1 : Int) else 0
        rw [if_neg q]; rfl
/-- what the reference knows of the facts -/
def facR (s : sT) (i : Nat) (al : Nat → Bool) (ff : Nat → Int) (fo : Nat → Int → Int) : Prop :=
  (∀ k, k < 10 → al (40 + k) = true → rg (ff k) ∧ ∃ v : Int64, v.toInt = ff k ∧ ∀ f n (Q : Int64 → sT → Prop), Q v (rP s f n) → c12_qPartOf (nI k) (nI i) Q (rP s f n)) ∧
  (∀ c, c = 60 ∨ c = 61 → al c = true → ∀ x : Int64, rg x.toInt → rg (fo c x.toInt) ∧ ∃ v : Int64, v.toInt = fo c x.toInt ∧ ∀ f n (Q : Int64 → sT → Prop), Q v (rP s f n) → c12_qOf (nI (c - 60)) x (nI i) Q (rP s f n))
theorem cR {c : Nat} (h : c ≤ 10999) : (1000 ≤ c → ¬ nI c < (1000 : Int32)) ∧ (c < 1000 → nI c < (1000 : Int32)) ∧ (40 ≤ c → ¬ nI c < (40 : Int32)) ∧ (c < 40 → nI c < (40 : Int32)) ∧ (60 ≤ c → ¬ nI c < (60 : Int32)) ∧ (c < 60 → nI c < (60 : Int32)) :=
  ⟨fun q => nI_nlt (b := 1000) q (by omega), fun q => nI_lt (b := 1000) q (by decide), fun q => nI_nlt (b := 40) q (by omega), fun q => nI_lt (b := 40) q (by decide), fun q => nI_nlt (b := 60) q (by omega), fun q => nI_lt (b := 60) q (by decide)⟩
/-- one code of the reference, whatever its loop is -/
theorem w_cstep {i c : Nat} {al : Nat → Bool} {ff : Nat → Int} {fo : Nat → Int → Int} {st st' : List Bool} {vs : List Int} {f : Nat → Int64} {L : sT → Prop} {s : sT} (F : facR s i al ff fo) (hc : ty1 al c st = some st') (hsl : st.length ≤ 60) (hv : tv st vs) (hp : plJ f vs)
    (h : ∀ g, tv st' (es ff fo c vs) → plJ g (es ff fo c vs) → L (rP s g (es ff fo c vs).length)) :
    (1000 ≤ c ∧ c ≤ 10999 ∧ c12_qPuts (Int32.toInt64 (nI c - (1000 : Int32))) L (rP s f vs.length)) ∨
    ((c = 60 ∨ c = 61) ∧ 1 ≤ vs.length ∧ ∃ r, vs.length = r + 1 ∧ r < 60 ∧ c12_qOf (nI c - (60 : Int32)) (f r) (nI i) (fun y u => c12_qClip y (fun z u2 => ∀ u3, u3 = wJ u2 239 r z → L u3) u) (rP s f vs.length)) ∨
    (40 ≤ c ∧ c < 50 ∧ c12_qPartOf (nI c - (40 : Int32)) (nI i) (fun y u => c12_qPuts y L u) (rP s f vs.length) ∧ c12_qPartOf (nI c - (40 : Int32)) (nI i) (fun y u => c12_qClip y (fun z u2 => c12_qPuts z L u2) u) (rP s f vs.length)) ∨
    (c = 13 ∧ c12_qPuts (1 : Int64) L (rP s f vs.length)) ∨
    (c = 12 ∧ ∃ r, vs.length = r + 1 ∧ r < 60 ∧ ∀ u3, u3 = wJ (rP s f vs.length) 239 r ((1 : Int64) - f r) → L u3) ∨
    (1 ≤ c ∧ c ≤ 11 ∧ c12_qJoins (nI c) L (rP s f vs.length)) := by
  have hl := tv_len hv
  rcases ty1_cases hc with ⟨h1, h2, h3, rfl⟩ | ⟨h1, ha, r, rfl, rfl⟩ | ⟨h1, h2, ha, h3, rfl⟩ | ⟨rfl, h3, rfl⟩ | ⟨rfl, r, rfl, rfl⟩ | ⟨h1, h2, r, rfl, rfl⟩ | ⟨h1, h2, r, rfl, rfl⟩ | ⟨h1, r, rfl, rfl⟩
  · have e2 : es ff fo c vs = ((c - 1000 : Nat) : Int) :: vs := by unfold es; rw [if_pos h1]
    rw [e2] at h
    refine Or.inl ⟨h1, h2, w_puts (by omega) (h _ (tv1 ⟨by omega, by omega⟩ hv) (plJ_put ?_ hp))⟩
    rw [show nI c - (1000 : Int32) = nI (c - 1000) from pk_sub (b := 1000) h1, wide, nI_toInt (by omega)]
  · obtain ⟨v, w, rfl, hv1, hv2⟩ := tv_f hv
    have e2 : es ff fo c (v :: w) = fo c v :: w := by rcases h1 with rfl | rfl <;> rfl
    rw [e2] at h
    simp only [List.length_cons] at hl hsl h ⊢
    have hx : (f w.length).toInt = v := hp.1
    obtain ⟨g1, v', g2, g3⟩ := F.2 c h1 ha (f w.length) (by rw [hx]; exact hv1)
    refine Or.inr (Or.inl ⟨h1, by omega, w.length, rfl, by omega, ?_⟩)
    rw [show nI c - (60 : Int32) = nI (c - 60) from pk_sub (b := 60) (by omega)]
    refine g3 _ _ _ (w_clip fun r' hr u hu => ?_)
    rw [g2, clip_of g1, hx] at hr
    rw [rP_wJ] at hu
    subst hu
    rw [hx] at g1
    exact h _ (tv1 g1 hv2) (plJ_put hr hp.2)
  · have e2 : es ff fo c vs = ff (c - 40) :: vs := by
      unfold es
      rw [if_neg (by omega), if_neg (by omega), if_pos h1]
    rw [e2] at h
    obtain ⟨g1, v', g2, g3⟩ := F.1 (c - 40) (by omega) (by rw [show 40 + (c - 40) = c by omega]; exact ha)
    rw [show nI c - (40 : Int32) = nI (c - 40) from pk_sub (b := 40) (by omega)]
    refine Or.inr (Or.inr (Or.inl ⟨h1, h2, g3 _ _ _ (w_puts (by omega) (h _ (tv1 g1 hv) (plJ_put g2 hp))), g3 _ _ _ (w_clip fun r' hr => w_puts (by omega) (h _ (tv1 g1 hv) (plJ_put ?_ hp)))⟩))
    rw [hr, g2, clip_of g1]
  · exact Or.inr (Or.inr (Or.inr (Or.inl ⟨rfl, w_puts (by omega) (h _ (tv2 (Or.inr rfl) hv) (plJ_put rfl hp))⟩)))
  · obtain ⟨v, w, rfl, hv1, hv2⟩ := tv_t hv
    simp only [List.length_cons] at hl hsl ⊢
    refine Or.inr (Or.inr (Or.inr (Or.inr (Or.inl ⟨by simp, w.length, by simp, by omega, fun u hu => ?_⟩))))
    have hx : (f w.length).toInt = v := hp.1
    rw [rP_wJ] at hu
    subst hu
    refine h _ (tv2 (by omega) hv2) (plJ_put ?_ hp.2)
    rw [fb_subL (by rw [hx]; show _ ≤ 1 - v; omega) (by rw [hx]; show 1 - v < _; omega), hx]; rfl
  all_goals
    have hb : 1 ≤ c ∧ c ≤ 11 := by omega
    have e2 : ∀ b a w, es ff fo c (b :: a :: w) = jn c a b :: w := fun b a w => by
      unfold es
      rw [if_neg (by omega), if_neg (by omega), if_neg (by omega), if_neg (by omega), if_neg (by omega)]
    simp only [List.length_cons] at hsl
    refine Or.inr (Or.inr (Or.inr (Or.inr (Or.inr ⟨hb.1, hb.2, ?_⟩))))
  · obtain ⟨b, w1, rfl, hb1, hv2⟩ := tv_f hv
    obtain ⟨a, w, rfl, ha1, hv3⟩ := tv_f hv2
    rw [e2] at h
    simp only [List.length_cons] at hl ⊢
    exact w_joinsL (by omega) hp.2.1 hp.1 (Or.inl ⟨h1, by omega, ha1, hb1⟩) (fun r hr1 => h _ (tv1 (jn_rg ⟨h1, h2⟩ ha1 hb1) hv3) (plJ_put hr1 hp.2.2))
  · obtain ⟨b, w1, rfl, hb1, hv2⟩ := tv_f hv
    obtain ⟨a, w, rfl, ha1, hv3⟩ := tv_f hv2
    rw [e2] at h
    simp only [List.length_cons] at hl ⊢
    exact w_joinsL (by omega) hp.2.1 hp.1 (Or.inl ⟨by omega, by omega, ha1, hb1⟩) (fun r hr1 => h _ (tv2 (jn_b ⟨h1, h2⟩) hv3) (plJ_put hr1 hp.2.2))
  · obtain ⟨b, w1, rfl, hb1, hv2⟩ := tv_t hv
    obtain ⟨a, w, rfl, ha1, hv3⟩ := tv_t hv2
    rw [e2] at h
    simp only [List.length_cons] at hl ⊢
    exact w_joinsL (by omega) hp.2.1 hp.1 (Or.inr ⟨h1, ha1, hb1⟩) (fun r hr1 => h _ (tv2 (jn_bb h1 ha1 hb1) hv3) (plJ_put hr1 hp.2.2))

theorem w_codes_19 {w E : Nat} {al : Nat → Bool} {ff : Nat → Int} {fo : Nat → Int → Int} {st' : List Bool} {Q : Int64 → sT → Prop} {s : sT} (hw : w < 2) (F : facR s 0 al ff fo) (h6 : ∀ c, 50 ≤ c → c < 1000 → al c = false) (hE : rI s 198 (2 + w) = nI E) (hE2 : E ≤ 1600) : ∀ (cs : List Nat) (i : Nat) (st : List Bool) (vs : List Int) (f : Nat → Int64), i + cs.length = E → (∀ k (h : k < cs.length), rI s 199 (1600 + (i + k)) = nI cs[k]) → tyL al cs st = some st' → st.length ≤ 60 → tv st vs → plJ f vs → (∀ g, tv st' (ev ff fo cs vs) → plJ g (ev ff fo cs vs) → Q (g 0) (rP s g (ev ff fo cs vs).length)) → c12_codesTell_19 (nI w) (nI i) Q (rP s f vs.length)
  | [], i, st, vs, f, hi, hs, ht, hsl, hv, hp, h => by
    have e : i = E := hi
    subst e
    cases ht
    have e2 : (2 : Int32) + nI w = nI (2 + w) := nI_add 2 w
    refine e_c12_codesTell_19 ⟨?_, br_f ?_ ?_⟩
    · rw [e2]; exact vp_in_nI (by omega) (by decide)
    · rw [e2, nI_clamp (by omega), rI_rP, if_neg (by omega), hE]
      exact nI_nlt (Nat.le_refl _) (by omega)
    · rw [rP_f]
      exact h f hv hp
  | c :: cs, i, st, vs, f, hi, hs, ht, hsl, hv, hp, h => by
    unfold tyL at ht
    cases hc : ty1 al c st with
    | none => rw [hc] at ht; cases ht
    | some st1 =>
      rw [hc] at ht
      have hi2 : i + (cs.length + 1) = E := hi
      have e2 : (2 : Int32) + nI w = nI (2 + w) := nI_add 2 w
      have e3 : (1600 : Int32) + nI i = nI (1600 + i) := nI_add 1600 i
      have hc0 : rI s 199 (1600 + i) = nI c := hs 0 (by simp)
      have hl := tv_len hv
      have hN : ∀ g, tv st1 (es ff fo c vs) → plJ g (es ff fo c vs) → c12_codesTell_19 (nI w) (nI (i + 1)) Q (rP s g (es ff fo c vs).length) := fun g hg hpg => by
        refine w_codes_19 hw F h6 hE hE2 cs (i + 1) st1 _ g (by omega) (fun k hk => ?_) ht (ty1_len hc hsl) hg hpg h
        have := hs (k + 1) (by simp; omega)
        rw [show 1600 + (i + 1 + k) = 1600 + (i + (k + 1)) by omega]
        exact this
      refine e_c12_codesTell_19 ⟨?_, br_t ?_ ⟨?_, fun x hx => ?_⟩⟩
      · rw [e2]; exact vp_in_nI (by omega) (by decide)
      · rw [e2, nI_clamp (by omega), rI_rP, if_neg (by omega), hE]
        exact nI_lt (by omega) (by omega)
      · rw [e3]; exact vp_in_nI (by omega) (by decide)
      rw [e3, nI_clamp (by omega), rI_rP, if_neg (by omega), hc0] at hx
      subst hx
      rw [nI_1]
      rcases w_cstep F hc hsl hv hp hN with ⟨h1, h2, h3⟩ | ⟨h1, -⟩ | ⟨h1, h2, h3, -⟩ | ⟨rfl, h3⟩ | ⟨rfl, r, h1, h2, h3⟩ | ⟨h1, h2, h3⟩
      · exact br_f ((cR h2).1 h1) h3
      · rcases ty1_cases hc with ⟨g1, -⟩ | ⟨-, g1, -⟩ | ⟨g1, g2, -⟩ | ⟨g1, -⟩ | ⟨g1, -⟩ | ⟨-, g1, -⟩ | ⟨-, g1, -⟩ | ⟨g1, -⟩
        · omega
        · rw [h6 c (by omega) (by omega)] at g1; cases g1
        all_goals omega
      · exact br_t ((cR (by omega)).2.1 (by omega)) (br_f ((cR (by omega)).2.2.1 h1) h3)
      · exact br_t (by decide) (br_t (by decide) (br_t rfl h3))
      · refine br_t (by decide) (br_t (by decide) (br_f (by decide) (br_t rfl ?_)))
        have e4 : nI vs.length - (1 : Int32) = nI r := by rw [h1]; exact nI_pred r
        rw [rP_n, e4, nI_clamp (by omega), rP_f]
        exact ⟨vp_in_nI (by omega) (by decide), vp_in_nI (by omega) (by decide), h3⟩
      · have k13 : ¬ nI c = (13 : Int32) := fun q => by rw [show (13 : Int32) = nI 13 from rfl, nI_eq (by omega) (by decide)] at q; omega
        have k12 : ¬ nI c = (12 : Int32) := fun q => by rw [show (12 : Int32) = nI 12 from rfl, nI_eq (by omega) (by decide)] at q; omega
        exact br_t ((cR (by omega)).2.1 (by omega)) (br_t ((cR (by omega)).2.2.2.1 (by omega)) (br_f k13 (br_f k12 h3)))
/-- the reference tells costs or likes -/
theorem w_codesTell {w frm : Nat} {al : Nat → Bool} {ff : Nat → Int} {fo : Nat → Int → Int} {b : Bool} {cs : List Nat} {Q : Int64 → sT → Prop} {s : sT} (hw : w < 2) (F : facR (wI s 162 50 (nI w)) 0 al ff fo) (h6 : ∀ c, 50 ≤ c → c < 1000 → al c = false) (hF : rI s 197 (2 + w) = nI frm) (hE : rI s 198 (2 + w) = nI (frm + cs.length)) (hE2 : frm + cs.length ≤ 1600) (hs : ∀ k (h : k < cs.length), rI s 199 (1600 + frm + k) = nI cs[k]) (ht : tyL al cs [] = some [b]) (h : ∀ (x : Int) (r : Int64) g n, ev ff fo cs [] = [x] → tv [b] [x] → r.toInt = x → Q r (rP (wI s 162 50 (nI w)) g n)) : c12_codesTell (nI w) Q s := by
  have e2 : (2 : Int32) + nI w = nI (2 + w) := nI_add 2 w
  refine e_c12_codesTell (fun u hu v hv => ⟨?_, fun x hx => ?_⟩)
  · rw [e2]; exact vp_in_nI (by omega) (by decide)
  have hv2 : v = rP (wI s 162 50 (nI w)) (rJ s 239) 0 := by
    rw [hv, hu]
    refine st_ext (fun a j => ?_) (fun a j => ?_) rfl
    · rw [rI_rP, rI_wI]; rfl
    · unfold rP
      rw [rJ_wI, rJ_wI, rJ_wI, rJ_wD, rJ_wI]
      split
      · rename_i q; rw [q]
      · rfl
  have rr : ∀ a k, ¬ a = 162 → rI (wI s 162 50 (nI w)) a k = rI s a k := fun a k q => by rw [rI_wI, if_neg (fun z => q z.1)]
  rw [e2, nI_clamp (by omega), hv2, rI_rP, if_neg (by omega), rr _ _ (by decide), hF] at hx
  rw [hv2, hx]
  refine w_codes_19 hw F h6 (by rw [rr _ _ (by decide)]; exact hE) hE2 cs frm [] [] _ rfl (fun k hk => ?_) ht (by decide) trivial trivial (fun g h1 h2 => ?_)
  · rw [rr _ _ (by decide), ← Nat.add_assoc]; exact hs k hk
  · have hlen := tv_len h1
    match hE : ev ff fo cs [], hlen, h1, h2 with
    | [x], _, h1, h2 => exact h x _ g _ hE h1 h2.1
theorem w_told_7 {i N : Nat} {al : Nat → Bool} {ff : Nat → Int} {fo : Nat → Int → Int} {st' : List Bool} {Q : Int64 → sT → Prop} {s : sT} (F : facR s i al ff fo) (hNN : rI s 162 101 = nI N) (hN2 : N ≤ 1600) : ∀ (cs : List Nat) (j : Nat) (st : List Bool) (vs : List Int) (f : Nat → Int64), j + cs.length = N → (∀ k (h : k < cs.length), rI s 237 (j + k) = nI cs[k]) → tyL al cs st = some st' → st.length ≤ 60 → tv st vs → plJ f vs → (∀ g, tv st' (ev ff fo cs vs) → plJ g (ev ff fo cs vs) → Q (g 0) (rP s g (ev ff fo cs vs).length)) → c12_qTold_7 (nI i) (nI j) Q (rP s f vs.length)
  | [], j, st, vs, f, hi, hs, ht, hsl, hv, hp, h => by
    have e : j = N := hi
    subst e
    cases ht
    refine e_c12_qTold_7 (br_f ?_ ?_)
    · rw [rI_rP, if_neg (by omega), hNN]
      exact nI_nlt (Nat.le_refl _) (by omega)
    · rw [rP_f]
      exact h f hv hp
  | c :: cs, j, st, vs, f, hi, hs, ht, hsl, hv, hp, h => by
    unfold tyL at ht
    cases hc : ty1 al c st with
    | none => rw [hc] at ht; cases ht
    | some st1 =>
      rw [hc] at ht
      have hi2 : j + (cs.length + 1) = N := hi
      have hc0 : rI s 237 j = nI c := hs 0 (by simp)
      have hl := tv_len hv
      have hN : ∀ g, tv st1 (es ff fo c vs) → plJ g (es ff fo c vs) → c12_qTold_7 (nI i) (nI (j + 1)) Q (rP s g (es ff fo c vs).length) := fun g hg hpg => by
        refine w_told_7 F hNN hN2 cs (j + 1) st1 _ g (by omega) (fun k hk => ?_) ht (ty1_len hc hsl) hg hpg h
        have := hs (k + 1) (by simp; omega)
        rw [show j + 1 + k = j + (k + 1) by omega]
        exact this
      refine e_c12_qTold_7 (br_t ?_ ⟨vp_in_nI (by omega) (by decide), fun x hx => ?_⟩)
      · rw [rI_rP, if_neg (by omega)]
        rw [hNN]
        exact nI_lt (by omega) (by omega)
      rw [nI_clamp (by omega), rI_rP, if_neg (by omega), hc0] at hx
      subst hx
      rw [nI_1]
      rcases w_cstep F hc hsl hv hp hN with ⟨h1, h2, h3⟩ | ⟨h1, h2, r, h4, h5, h3⟩ | ⟨h1, h2, -, h3⟩ | ⟨rfl, h3⟩ | ⟨rfl, r, h1, h2, h3⟩ | ⟨h1, h2, h3⟩
      · exact br_f ((cR h2).1 h1) h3
      · refine br_t ((cR (by omega)).2.1 (by omega)) (br_f ((cR (by omega)).2.2.2.2.1 (by omega)) ?_)
        have e4 : nI vs.length - (1 : Int32) = nI r := by rw [h4]; exact nI_pred r
        rw [rP_n, e4, nI_clamp (by omega), rP_f]
        exact ⟨vp_in_nI (by omega) (by decide), mo_c12_qOf h3 (fun _ _ q => mo_c12_qClip q (fun _ _ q => ⟨vp_in_nI (by omega) (by decide), q⟩))⟩
      · exact br_t ((cR (by omega)).2.1 (by omega)) (br_t ((cR (by omega)).2.2.2.2.2 (by omega)) (br_f ((cR (by omega)).2.2.1 h1) h3))
      · exact br_t (by decide) (br_t (by decide) (br_t (by decide) (br_t rfl h3)))
      · refine br_t (by decide) (br_t (by decide) (br_t (by decide) (br_f (by decide) (br_t rfl ?_))))
        have e4 : nI vs.length - (1 : Int32) = nI r := by rw [h1]; exact nI_pred r
        rw [rP_n, e4, nI_clamp (by omega), rP_f]
        exact ⟨vp_in_nI (by omega) (by decide), vp_in_nI (by omega) (by decide), h3⟩
      · have k13 : ¬ nI c = (13 : Int32) := fun q => by rw [show (13 : Int32) = nI 13 from rfl, nI_eq (by omega) (by decide)] at q; omega
        have k12 : ¬ nI c = (12 : Int32) := fun q => by rw [show (12 : Int32) = nI 12 from rfl, nI_eq (by omega) (by decide)] at q; omega
        exact br_t ((cR (by omega)).2.1 (by omega)) (br_t ((cR (by omega)).2.2.2.2.2 (by omega)) (br_t ((cR (by omega)).2.2.2.1 (by omega)) (br_f k13 (br_f k12 h3))))
/-- the reference tells what a question asks of one person -/
theorem w_told {i : Nat} {al : Nat → Bool} {ff : Nat → Int} {fo : Nat → Int → Int} {b : Bool} {cs : List Nat} {Q : Int64 → sT → Prop} {s : sT} (F : facR s i al ff fo) (hN : rI s 162 101 = nI cs.length) (hN2 : cs.length ≤ 1600) (hs : ∀ k (h : k < cs.length), rI s 237 k = nI cs[k]) (ht : tyL al cs [] = some [b]) (h : ∀ (x : Int) (r : Int64) g n, ev ff fo cs [] = [x] → tv [b] [x] → r.toInt = x → Q r (rP s g n)) : c12_qTold (nI i) Q s := by
  refine e_c12_qTold (fun u hu => ?_)
  have hu2 : u = rP s (rJ s 239) 0 := by
    rw [hu]
    refine st_ext (fun a j => ?_) (fun a j => ?_) rfl
    · rw [rI_rP, rI_wI]; rfl
    · unfold rP
      rw [rJ_wI, rJ_wI, rJ_wD]
      split
      · rename_i q; rw [q]
      · rfl
  rw [hu2]
  refine w_told_7 F hN hN2 cs 0 [] [] _ (Nat.zero_add _) (fun k hk => by rw [Nat.zero_add]; exact hs k hk) ht (by decide) trivial trivial (fun g h1 h2 => ?_)
  have hlen := tv_len h1
  match hE : ev ff fo cs [], hlen, h1, h2 with
  | [x], _, h1, h2 => exact h x _ g _ hE h1 h2.1
