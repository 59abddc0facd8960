-- the same in the reference
def NwW (s : sT) (w : Nat → Nat) : Prop := ∀ k, k < 37 → rI s 200 k = nI (w k)
/-- what a choice of the reference writes -/
def Xr (a j : Nat) : Bool := Nat.beq a 239 || (Nat.beq a 162 && (Nat.beq j 50 || (Nat.beq j 59 || (Nat.beq j 61 || Nat.beq j 107))))
def likR (s : sT) (lc : List Nat) : Prop := lc.length ≤ 1600 ∧ tyL alK lc [] = some [true] ∧ ((rI s 197 3 = (-1 : Int32) ∧ lc = [13]) ∨ ∃ frm, rI s 197 3 = nI frm ∧ rI s 198 3 = nI (frm + lc.length) ∧ frm + lc.length ≤ 1600 ∧ ∀ k (h : k < lc.length), rI s 199 (1600 + frm + k) = nI lc[k])
def wayR (s : sT) (p : Nat) (L : List Nat) : Prop := p < 6 ∧ L.length ≤ 32 ∧ rI s 205 p = nI L.length ∧ (∀ k (h : k < L.length), rI s 204 (2000 * p + k) = nI L[k]) ∧ ∀ x ∈ L, 0 < x ∧ x < 2 ^ 24
theorem likR_fr {X : Nat → Nat → Bool} {s t : sT} {lc : List Nat} (h : Fr X s t) (hx : ∀ a j, 197 ≤ a → a ≤ 199 → X a j = false) (C : likR s lc) : likR t lc := by
  obtain ⟨a, b, c⟩ := C
  refine ⟨a, b, ?_⟩
  rcases c with ⟨c1, c2⟩ | ⟨frm, c1, c2, c3, c4⟩
  · exact Or.inl ⟨by rw [h.1 _ _ (hx _ _ (by decide) (by decide))]; exact c1, c2⟩
  · exact Or.inr ⟨frm, by rw [h.1 _ _ (hx _ _ (by decide) (by decide))]; exact c1, by rw [h.1 _ _ (hx _ _ (by decide) (by decide))]; exact c2, c3, fun k hk => by rw [h.1 _ _ (hx _ _ (by decide) (by decide))]; exact c4 k hk⟩
theorem wayR_fr {X : Nat → Nat → Bool} {s t : sT} {p : Nat} {L : List Nat} (h : Fr X s t) (hx : ∀ a j, 204 ≤ a → a ≤ 205 → X a j = false) (C : wayR s p L) : wayR t p L := by
  obtain ⟨a, b, c, d, e⟩ := C
  refine ⟨a, b, ?_, fun k hk => ?_, e⟩
  · rw [h.1 _ _ (hx _ _ (by decide) (by decide))]; exact c
  · rw [h.1 _ _ (hx _ _ (by decide) (by decide))]; exact d k hk
theorem xr_f {a j : Nat} (h : a ≠ 239) (h2 : a ≠ 162) : Xr a j = false := by
  unfold Xr
  rw [Bool.eq_false_iff]
  intro q
  simp only [Bool.or_eq_true, Bool.and_eq_true, Nat.beq_eq] at q
  omega
theorem NwW_fr {X : Nat → Nat → Bool} {s t : sT} {w : Nat → Nat} (h : Fr X s t) (hx : ∀ j, j < 37 → X 200 j = false) (N : NwW s w) : NwW t w := fun k hk => by rw [h.1 _ _ (hx k hk)]; exact N k hk
theorem lessOf_nI {a b : Nat} {Q : Int32 → sT → Prop} {s : sT} (ha : a < 2 ^ 31) (hb : b < 2 ^ 31) (h : Q (nI (if b < a then b else a)) s) : c12_lessOf (nI a) (nI b) Q s := by
  refine e_c12_lessOf (br_c (fun q => ?_) (fun q => ?_))
  · rw [nI_ltI ha hb] at q
    rw [if_neg (by omega)] at h
    exact h
  · rw [nI_ltI ha hb] at q
    by_cases z : b < a
    · rw [if_pos z] at h; exact h
    · have e : a = b := by omega
      subst e
      rw [if_neg z] at h; exact h
theorem w_isOf {x n : Nat} {Q : Int32 → sT → Prop} {s : sT} (hx : x < 2 ^ 24) (h1 : 1 ≤ n) (h2 : n ≤ 24) (h : Q (if x.testBit (n - 1) = true then 1 else 0) s) : c12_isOf (nI x) (nI n) Q s := by
  refine e_c12_isOf ?_
  rw [show (1 : Int32) = nI 1 from rfl, pk_sub h1]
  have e := bit_1 (x := x) (k := n - 1) (by omega) (by omega)
  refine br_c (fun q => ?_) (fun q => ?_)
  · rw [if_pos (e.1 q)] at h; exact h
  · rw [if_neg (fun z => q (e.2 z))] at h; exact h
theorem w_inst_2 {x fin : Nat} {w : Nat → Nat} {Q : Int32 → sT → Prop} {s : sT} (hx : x < 2 ^ fin) (hf : fin ≤ 24) (hF : rI s 193 5 = nI fin) (N : NwW s w) (hw : ∀ n, w n < 2 ^ 31) (h : Q (if sB x (fun n => decide (0 < w n)) = true then 1 else 0) s) : ∀ m k, k + m = fin → (∀ i, i < k → x.testBit i = true → 0 < w (i + 1)) → c12_isInStock_2 (nI x) (nI (k + 1)) Q s
  | 0, k, e, g => by
    have e : k = fin := e
    subst e
    refine e_c12_isInStock_2 (e_c12_finest (br_t (by rw [hF]; exact nI_lt (by omega) (by omega)) ?_))
    have : sB x (fun n => decide (0 < w n)) = true := by
      rw [sB_iff]
      intro i hi hb
      rcases Nat.lt_or_ge i k with q | q
      · exact decide_eq_true (g i q hb)
      · rw [t_lt hx q] at hb; cases hb
    rw [if_pos this] at h
    exact h
  | m + 1, k, e, g => by
    have hx24 : x < 2 ^ 24 := Nat.lt_of_lt_of_le hx (Nat.pow_le_pow_right (by decide) hf)
    have hN := w_inst_2 hx hf hF N hw h m (k + 1) (by omega)
    refine e_c12_isInStock_2 (e_c12_finest (br_f (by rw [hF]; exact nI_nlt (by omega) (by omega)) (w_isOf hx24 (by omega) (by omega) ?_)))
    rw [Nat.add_sub_cancel, nI_1]
    by_cases hb : x.testBit k = true
    · rw [if_pos hb]
      refine br_f (by decide) ⟨vp_in_nI (by omega) (by decide), ?_⟩
      rw [nI_clamp (by omega), N (k + 1) (by omega)]
      refine br_c (fun q => ?_) (fun q => hN (fun i hi hbi => ?_))
      · rw [show (0 : Int32) = nI 0 from rfl, nI_eq (hw _) (by decide)] at q
        have : ¬ sB x (fun n => decide (0 < w n)) = true := fun z => by
          have := of_decide_eq_true (sB_iff.1 z k (by omega) hb)
          omega
        rw [if_neg this] at h
        exact h
      · rcases Nat.lt_or_ge i k with z | z
        · exact g i z hbi
        · have e : i = k := by omega
          subst e
          have : w (i + 1) ≠ 0 := fun y => q (by rw [y]; rfl)
          omega
    · rw [if_neg hb]
      refine br_t rfl (hN (fun i hi hbi => ?_))
      rcases Nat.lt_or_ge i k with z | z
      · exact g i z hbi
      · have e : i = k := by omega
        subst e
        exact absurd hbi hb
theorem w_inst {x fin : Nat} {w : Nat → Nat} {Q : Int32 → sT → Prop} {s : sT} (hx : x < 2 ^ fin) (hf : fin ≤ 24) (hF : rI s 193 5 = nI fin) (N : NwW s w) (hw : ∀ n, w n < 2 ^ 31) (h : Q (if sB x (fun n => decide (0 < w n)) = true then 1 else 0) s) : c12_isInStock (nI x) Q s :=
  e_c12_isInStock (w_inst_2 hx hf hF N hw h fin 0 (Nat.zero_add _) (fun i hi _ => by omega))
theorem facK {s : sT} {p n : Nat} {w : Nat → Nat} (hn1 : 1 ≤ n) (hn : n ≤ 24) (hp : p < 6) (hw : wB w) (N : NwW s w) (e59 : rI s 162 59 = nI n) (e61 : rI s 162 61 = nI p) : facR s 0 alK (ffK w p n) fo0 := by
  refine ⟨fun k hk ha => ⟨ffK_rg hw hn, ?_⟩, fun c hc ha => by rcases hc with rfl | rfl <;> exact absurd ha (by decide)⟩
  have b1 := hw n
  have b2 := hw 0
  have b3 := hw (25 + 2 * p)
  have rr : ∀ (f : Nat → Int64) m a j, (a ≠ 162 ∨ j ≠ 107) → rI (rP s f m) a j = rI s a j := fun f m a j q => by rw [rI_rP, if_neg (by omega)]
  rcases alK_k ha with rfl | rfl | rfl | rfl
  · refine ⟨Int32.toInt64 (nI n), by rw [wide, nI_toInt (by omega)]; rfl, fun f m Q h => e_c12_qPartOf (br_t rfl ?_)⟩
    rw [rr _ _ _ _ (by omega), e59]
    exact h
  · refine ⟨Int32.toInt64 (nI (w n)), by rw [wide, nI_toInt (by omega)]; rfl, fun f m Q h => e_c12_qPartOf (br_f (by decide) (br_t rfl ⟨?_, ?_⟩))⟩
    · rw [rr _ _ _ _ (by omega), e59]
      exact vp_in_nI (by omega) (by decide)
    · rw [rr _ _ 162 59 (by omega), e59, nI_clamp (by omega), rr _ _ _ _ (by omega), N n (by omega)]
      exact h
  · refine ⟨Int32.toInt64 (nI (w 0)), by rw [wide, nI_toInt (by omega)]; rfl, fun f m Q h => e_c12_qPartOf (br_f (by decide) (br_f (by decide) (br_t rfl ?_)))⟩
    rw [rr _ _ _ _ (by omega), N 0 (by omega)]
    exact h
  · refine ⟨Int32.toInt64 (nI (w (25 + 2 * p))), by rw [wide, nI_toInt (by omega)]; rfl, fun f m Q h => e_c12_qPartOf (br_f (by decide) (br_f (by decide) (br_f (by decide) (br_f (by decide) (br_t rfl ?_)))))⟩
    have e : (25 : Int32) + (2 : Int32) * nI p = nI (25 + 2 * p) := by
      rw [show (25 : Int32) = nI 25 from rfl, show (2 : Int32) = nI 2 from rfl, pk_mul, nI_add]
    refine e_c12_hungerOf ?_
    rw [rr _ _ 162 61 (by omega), e61, e, nI_clamp (by omega), rr _ _ _ _ (by omega), N _ (by omega)]
    exact ⟨vp_in_nI (by omega) (by decide), h⟩
theorem alK_6 : ∀ c, 50 ≤ c → c < 1000 → alK c = false := fun c h1 h2 => by
  unfold alK
  rw [Bool.eq_false_iff]
  intro q
  simp only [Bool.or_eq_true, beq_iff_eq] at q
  omega
theorem w_liked_17 {x fin p frm : Nat} {lc : List Nat} {w : Nat → Nat} {Q : Int32 → sT → Prop} {s : sT} (hx : x < 2 ^ fin) (hf : fin ≤ 24) (hF : rI s 193 5 = nI fin) (N : NwW s w) (hw : wB w) (hp : p < 6) (ht : tyL alK lc [] = some [true]) (c1 : rI s 197 3 = nI frm) (c2 : rI s 198 3 = nI (frm + lc.length)) (c3 : frm + lc.length ≤ 1600) (c4 : ∀ k (h : k < lc.length), rI s 199 (1600 + frm + k) = nI lc[k]) (h : ∀ s', Fr Xr s s' → Q (if sB x (lkB lc w p) = true then 1 else 0) s') : ∀ m k s', k + m = fin → Fr Xr s s' → rI s' 162 61 = nI p → (∀ i, i < k → x.testBit i = true → lkB lc w p (i + 1) = true) → c12_isLiked_17 (nI x) (nI (k + 1)) Q s'
  | 0, k, s', e, hr, e61, g => by
    have e : k = fin := e
    subst e
    refine e_c12_isLiked_17 (e_c12_finest (br_t (by rw [hr.1 193 5 rfl, hF]; exact nI_lt (by omega) (by omega)) ?_))
    have : sB x (lkB lc w p) = true := by
      rw [sB_iff]
      intro i hi hb
      rcases Nat.lt_or_ge i k with q | q
      · exact g i q hb
      · rw [t_lt hx q] at hb; cases hb
    have h' := h s' hr
    rw [if_pos this] at h'
    exact h'
  | m + 1, k, s', e, hr, e61, g => by
    have hx24 : x < 2 ^ 24 := Nat.lt_of_lt_of_le hx (Nat.pow_le_pow_right (by decide) hf)
    refine e_c12_isLiked_17 (e_c12_finest (br_f (by rw [hr.1 193 5 rfl, hF]; exact nI_nlt (by omega) (by omega)) (w_isOf hx24 (by omega) (by omega) ?_)))
    rw [Nat.add_sub_cancel, nI_1]
    by_cases hb : x.testBit k = true
    · rw [if_pos hb]
      refine br_f (by decide) (fun u hu => ?_)
      have hru : Fr Xr s u := by rw [hu]; exact fr_wI hr rfl
      have hr2 : Fr Xr s (wI u 162 50 (nI 1)) := fr_wI hru rfl
      have rx : ∀ a j, Xr a j = false → rI (wI u 162 50 (nI 1)) a j = rI s a j := fun a j q => hr2.1 a j q
      have fK : facR (wI u 162 50 (nI 1)) 0 alK (ffK w p (k + 1)) fo0 := by
        refine facK (by omega) (by omega) hp hw (fun j hj => by rw [rx _ _ rfl]; exact N j hj) ?_ ?_
        · rw [rI_wI, if_neg (by omega), hu, rI_wI, if_pos ⟨rfl, rfl⟩]
        · rw [rI_wI, if_neg (by omega), hu, rI_wI, if_neg (by omega)]; exact e61
      refine w_codesTell (w := 1) (frm := frm) (cs := lc) (b := true) (by decide) fK alK_6 (by rw [hru.1 _ _ rfl]; exact c1) (by rw [hru.1 _ _ rfl]; exact c2) c3 (fun j hj => by rw [hru.1 _ _ rfl]; exact c4 j hj) ht (fun v r f n hv ht2 hr3 => ?_)
      have hr4 : Fr Xr s (rP (wI u 162 50 (nI 1)) f n) := by
        refine ⟨fun a j q => ?_, fun a j q => ?_, hr2.2.2⟩
        · rw [rI_rP, if_neg (fun z => by obtain ⟨rfl, rfl⟩ := z; cases q)]; exact rx a j q
        · unfold rP
          rw [rJ_wI, rJ_wD, if_neg (fun z => by subst z; cases q)]
          exact hr2.2.1 a j q
      have e61' : rI (rP (wI u 162 50 (nI 1)) f n) 162 61 = nI p := by rw [rI_rP, if_neg (by omega), rI_wI, if_neg (by omega), hu, rI_wI, if_neg (by omega)]; exact e61
      have hl : lkB lc w p (k + 1) = decide (v = 1) := by
        unfold lkB
        rw [hv]
        simp
      have hr1 : r = (1 : Int64) ↔ v = 1 := by rw [fa_eq64, hr3]; exact Iff.rfl
      refine br_c (fun q => ?_) (fun q => ?_)
      · refine w_liked_17 hx hf hF N hw hp ht c1 c2 c3 c4 h m (k + 1) _ (by omega) hr4 e61' (fun i hi hbi => ?_)
        rcases Nat.lt_or_ge i k with z | z
        · exact g i z hbi
        · have e : i = k := by omega
          subst e
          rw [hl]
          exact decide_eq_true (hr1.1 q)
      · have : ¬ sB x (lkB lc w p) = true := fun z => by
          have := sB_iff.1 z k (by omega) hb
          rw [hl] at this
          exact q (hr1.2 (of_decide_eq_true this))
        have h' := h _ hr4
        rw [if_neg this] at h'
        exact h'
    · rw [if_neg hb]
      refine br_t rfl (w_liked_17 hx hf hF N hw hp ht c1 c2 c3 c4 h m (k + 1) s' (by omega) hr e61 (fun i hi hbi => ?_))
      rcases Nat.lt_or_ge i k with z | z
      · exact g i z hbi
      · have e : i = k := by omega
        subst e
        exact absurd hbi hb
theorem w_liked {x fin p : Nat} {lc : List Nat} {w : Nat → Nat} {Q : Int32 → sT → Prop} {s : sT} (hx : x < 2 ^ fin) (hf : fin ≤ 24) (hF : rI s 193 5 = nI fin) (N : NwW s w) (hw : wB w) (hp : p < 6) (C : likR s lc) (h : ∀ s', Fr Xr s s' → Q (if sB x (lkB lc w p) = true then 1 else 0) s') : c12_isLiked (nI p) (nI x) Q s := by
  obtain ⟨ha, ht, C⟩ := C
  have e2 : (2 : Int32) + (1 : Int32) = nI 3 := rfl
  refine e_c12_isLiked (e_c12_isCoded ⟨by rw [e2]; exact vp_in_nI (by decide) (by decide), ?_⟩)
  rw [e2, nI_clamp (by decide)]
  rcases C with ⟨c1, rfl⟩ | ⟨frm, c1, c2, c3, c4⟩
  · refine br_t c1 (br_t rfl ?_)
    have : sB x (lkB [13] w p) = true := by
      rw [sB_iff]
      intro i hi hb
      rfl
    have h' := h s fr_rf
    rw [if_pos this] at h'
    exact h'
  · have hne : ¬ rI s 197 3 = (-1 : Int32) := fun q => by
      rw [c1] at q
      have := congrArg Int32.toInt q
      rw [nI_toInt (by omega)] at this
      have e : ((-1 : Int32)).toInt = -1 := rfl
      omega
    refine br_f hne (br_f (by decide) (fun u hu => ?_))
    have hru : Fr Xr s u := by rw [hu]; exact fr_wI fr_rf rfl
    refine w_liked_17 (s := s) hx hf hF N hw hp ht c1 c2 c3 c4 h fin 0 u (Nat.zero_add _) hru (by rw [hu, rI_wI, if_pos ⟨rfl, rfl⟩]) (fun i hi _ => by omega)
