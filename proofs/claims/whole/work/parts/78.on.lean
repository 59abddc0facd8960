def T2 (f : Nat → Nat) (k : Nat) : Nat := 256 * f k + f (k + 1)
def tpC (s : sT) (a : Nat) (f : Nat → Nat) : Prop := ∀ k, k < 1600 → f k < 256 ∧ rI s a k = nI (f k)
theorem T2_lt {s : sT} {a k : Nat} {f : Nat → Nat} (h : tpC s a f) (hk : k + 1 < 1600) : T2 f k < 65536 := by
  have h1 := (h k (by omega)).1
  have h2 := (h (k + 1) hk).1
  unfold T2
  omega
theorem twoC {f : Nat → Nat} {n k : Nat} {Q : Int32 → sT → Prop} {s : sT} (hn : n ≤ 1600) (h2 : rI s 2 1 = nI n) (h3 : tpC s 3 f) (hk : k + 1 < n) (q : Q (nI (T2 f k)) s) : c10_two (nI k) Q s := by
  refine e_c10_two (br_f (nI_pos (by omega)) ?_)
  rw [nI_1]
  refine br_t (by rw [h2]; exact nI_lt hk (by omega)) ⟨vp_in_nI (by omega) (by decide), vp_in_nI (by omega) (by decide), ?_⟩
  rw [nI_clamp (by omega), nI_clamp (by omega), (h3 k (by omega)).2, (h3 (k + 1) (by omega)).2, show (256 : Int32) = nI 256 from rfl, pk_mul, nI_add, Nat.mul_comm]
  exact q
theorem twoR {f : Nat → Nat} {k : Nat} {Q : Int32 → sT → Prop} {s : sT} (h3 : tpC s 163 f) (hk : k + 1 < 1600) (q : Q (nI (T2 f k)) s) : c12_twoAt (nI k) Q s := by
  refine e_c12_twoAt ?_
  rw [nI_1]
  refine ⟨vp_in_nI (by omega) (by decide), vp_in_nI (by omega) (by decide), ?_⟩
  rw [nI_clamp (by omega), nI_clamp (by omega), (h3 k (by omega)).2, (h3 (k + 1) (by omega)).2, show (256 : Int32) = nI 256 from rfl, pk_mul, nI_add]
  exact q
def im1 (f : Nat → Nat) : Nat → Nat → Bool
  | 0, _ => true
  | m + 1, i => if T2 f (2 * i) ≤ 999 then im1 f m (i + 1) else false
def im2 (f : Nat → Nat) (fin : Nat) : Nat → Nat → Bool
  | 0, _ => true
  | m + 1, p => if f (2 + 2 * fin + 3 * p) ≤ 99 ∧ T2 f (2 + 2 * fin + 3 * p + 1) ≤ 999 then im2 f fin m (p + 1) else false
theorem im1_sp {f : Nat → Nat} : ∀ m r, im1 f m r = true → ∀ k, r ≤ k → k < r + m → T2 f (2 * k) ≤ 999
  | 0, r, h, k, a, b => by omega
  | m + 1, r, h, k, a, b => by
    unfold im1 at h
    split at h
    · by_cases z : k = r
      · subst z; assumption
      · exact im1_sp m (r + 1) h k (by omega) (by omega)
    · cases h
theorem im2_sp {f : Nat → Nat} {fin : Nat} : ∀ m r, im2 f fin m r = true → ∀ k, r ≤ k → k < r + m → f (2 + 2 * fin + 3 * k) ≤ 99 ∧ T2 f (2 + 2 * fin + 3 * k + 1) ≤ 999
  | 0, r, h, k, a, b => by omega
  | m + 1, r, h, k, a, b => by
    unfold im2 at h
    split at h
    · by_cases z : k = r
      · subst z; assumption
      · exact im2_sp m (r + 1) h k (by omega) (by omega)
    · cases h
theorem ix_ {fin p : Nat} : (((2 : Int32) + ((2 : Int32) * nI fin)) + ((3 : Int32) * nI p)) = nI (2 + 2 * fin + 3 * p) := by
  rw [show (2 : Int32) = nI 2 from rfl, show (3 : Int32) = nI 3 from rfl, pk_mul, pk_mul, nI_add, nI_add]
theorem w_im84 {f : Nat → Nat} {fin ppl : Nat} {Q : Int32 → sT → Prop} {s : sT} (h24 : fin ≤ 24) (h6 : ppl ≤ 6) (h2 : rI s 2 1 = nI (3 + 2 * fin + 3 * ppl)) (h3 : tpC s 3 f) : ∀ m p, p + m = ppl → (im2 f fin m p = true → Q 1 s) → (im2 f fin m p = false → Q 0 s) → c10_isImage_84 (nI fin) (nI ppl) (nI p) Q s
  | 0, p, e, ht, hf => by
    have e : p = ppl := e
    subst e
    exact e_c10_isImage_84 (br_f (nI_nlt (Nat.le_refl _) (by omega)) (ht rfl))
  | m + 1, p, e, ht, hf => by
    unfold im2 at ht hf
    have hT := T2_lt h3 (k := 2 + 2 * fin + 3 * p + 1) (by omega)
    have hb := (h3 (2 + 2 * fin + 3 * p) (by omega)).1
    refine e_c10_isImage_84 (br_t (nI_lt (by omega) (by omega)) (fun x hx => ?_))
    rw [ix_] at hx
    rw [hx]
    refine ⟨vp_in_nI (by omega) (by decide), ?_⟩
    rw [nI_clamp (by omega), (h3 _ (by omega)).2, show (99 : Int32) = nI 99 from rfl, nI_ltI (by decide) (by omega), nI_1]
    refine br_c (fun q => hf (if_neg (by omega))) (fun q => twoC (by omega) h2 h3 (by omega) ?_)
    rw [show (999 : Int32) = nI 999 from rfl, nI_ltI (by decide) (by omega), nI_1]
    refine br_c (fun q2 => hf (if_neg (by omega))) (fun q2 => ?_)
    rw [if_pos ⟨by omega, by omega⟩] at ht hf
    exact w_im84 h24 h6 h2 h3 m (p + 1) (by omega) ht hf
theorem w_im53 {f : Nat → Nat} {fin ppl : Nat} {Q : Int32 → sT → Prop} {s : sT} (h24 : fin ≤ 24) (h6 : ppl ≤ 6) (h2 : rI s 2 1 = nI (3 + 2 * fin + 3 * ppl)) (h3 : tpC s 3 f) : ∀ m i, i + m = fin + 1 → ((im1 f m i && im2 f fin ppl 0) = true → Q 1 s) → ((im1 f m i && im2 f fin ppl 0) = false → Q 0 s) → c10_isImage_53 (nI fin) (nI ppl) (nI i) Q s
  | 0, i, e, ht, hf => e_c10_isImage_53 (br_t (nI_lt (by omega) (by omega)) (w_im84 h24 h6 h2 h3 ppl 0 (Nat.zero_add _) (fun q => ht (by rw [q]; rfl)) (fun q => hf (by rw [q]; rfl))))
  | m + 1, i, e, ht, hf => by
    unfold im1 at ht hf
    have hT := T2_lt h3 (k := 2 * i) (by omega)
    refine e_c10_isImage_53 (br_f (nI_nlt (by omega) (by omega)) ?_)
    rw [show (2 : Int32) = nI 2 from rfl, pk_mul]
    refine twoC (by omega) h2 h3 (by omega) ?_
    rw [show (999 : Int32) = nI 999 from rfl, nI_ltI (by decide) (by omega), nI_1]
    refine br_c (fun q2 => hf (by rw [if_neg (by omega)]; rfl)) (fun q2 => ?_)
    rw [if_pos (by omega)] at ht hf
    exact w_im53 h24 h6 h2 h3 m (i + 1) (by omega) ht hf
theorem w_im92 {f : Nat → Nat} {fin ppl : Nat} {Q : Int32 → sT → Prop} {s : sT} (h24 : fin ≤ 24) (h6 : ppl ≤ 6) (h3 : tpC s 163 f) : ∀ m p, p + m = ppl → (im2 f fin m p = true → Q 1 s) → (im2 f fin m p = false → Q 0 s) → c12_isImage_92 (nI (3 + 2 * fin + 3 * ppl)) (nI (2 + 2 * fin + 3 * p)) Q s
  | 0, p, e, ht, hf => by
    have e : p = ppl := e
    subst e
    refine e_c12_isImage_92 (br_f ?_ (ht rfl))
    rw [show (1 : Int32) = nI 1 from rfl, pk_sub (by omega)]
    exact nI_nlt (by omega) (by omega)
  | m + 1, p, e, ht, hf => by
    unfold im2 at ht hf
    have hT := T2_lt h3 (k := 2 + 2 * fin + 3 * p + 1) (by omega)
    have hb := (h3 (2 + 2 * fin + 3 * p) (by omega)).1
    refine e_c12_isImage_92 (br_t (by rw [show (1 : Int32) = nI 1 from rfl, pk_sub (by omega)]; exact nI_lt (by omega) (by omega)) ⟨vp_in_nI (by omega) (by decide), ?_⟩)
    rw [nI_clamp (by omega), (h3 _ (by omega)).2, show (99 : Int32) = nI 99 from rfl, nI_ltI (by decide) (by omega), nI_1]
    refine br_c (fun q => hf (if_neg (by omega))) (fun q => twoR h3 (by omega) ?_)
    rw [show (999 : Int32) = nI 999 from rfl, nI_ltI (by decide) (by omega), show (3 : Int32) = nI 3 from rfl, nI_add]
    refine br_c (fun q2 => hf (if_neg (by omega))) (fun q2 => ?_)
    rw [if_pos ⟨by omega, by omega⟩] at ht hf
    exact w_im92 h24 h6 h3 m (p + 1) (by omega) ht hf
theorem w_im66 {f : Nat → Nat} {fin ppl : Nat} {Q : Int32 → sT → Prop} {s : sT} (h24 : fin ≤ 24) (h6 : ppl ≤ 6) (h3 : tpC s 163 f) : ∀ m i, i + m = fin + 1 → ((im1 f m i && im2 f fin ppl 0) = true → Q 1 s) → ((im1 f m i && im2 f fin ppl 0) = false → Q 0 s) → c12_isImage_66 (nI (3 + 2 * fin + 3 * ppl)) (nI (2 + 2 * fin)) (nI (2 * i)) Q s
  | 0, i, e, ht, hf => e_c12_isImage_66 (br_f (nI_nlt (by omega) (by omega)) (w_im92 h24 h6 h3 ppl 0 (Nat.zero_add _) (fun q => ht (by rw [q]; rfl)) (fun q => hf (by rw [q]; rfl))))
  | m + 1, i, e, ht, hf => by
    unfold im1 at ht hf
    have hT := T2_lt h3 (k := 2 * i) (by omega)
    refine e_c12_isImage_66 (br_t (nI_lt (by omega) (by omega)) (twoR h3 (by omega) ?_))
    rw [show (999 : Int32) = nI 999 from rfl, nI_ltI (by decide) (by omega), show (2 : Int32) = nI 2 from rfl, nI_add]
    refine br_c (fun q2 => hf (by rw [if_neg (by omega)]; rfl)) (fun q2 => ?_)
    rw [if_pos (by omega)] at ht hf
    exact w_im66 h24 h6 h3 m (i + 1) (by omega) ht hf
def onP (f : Nat → Nat) (n fin ppl : Nat) : Prop := n = 3 + 2 * fin + 3 * ppl ∧ ckF (fun k => nI (f k)) (n - 1) = nI (f (n - 1)) ∧ T2 f 0 ≤ 999 ∧ (im1 f fin 1 && im2 f fin ppl 0) = true
theorem w_imC {f : Nat → Nat} {n fin ppl : Nat} {Q : Int32 → sT → Prop} {s : sT} (h24 : fin ≤ 24) (h6 : ppl ≤ 6) (hn : n ≤ 1600) (h2 : rI s 2 1 = nI n) (h3 : tpC s 3 f) (ht : onP f n fin ppl → Q 1 s) (hf : ¬ onP f n fin ppl → Q 0 s) : c10_isImage (nI fin) (nI ppl) Q s := by
  refine e_c10_isImage (fun x hx => ?_)
  rw [ix_] at hx
  rw [hx, h2, nI_1, nI_eq (by omega) (by omega)]
  refine br_c (fun q => ⟨vp_in_nI (by omega) (by decide), e_c10_checkOf ?_⟩) (fun q => hf (fun z => q (by have := z.1; omega)))
  have q' : n = 3 + 2 * fin + 3 * ppl := by omega
  subst q'
  have em : 3 + 2 * fin + 3 * ppl - 1 = 2 + 2 * fin + 3 * ppl := by omega
  refine w_ckC (t := 3) (N := 1600) (n := 2 + 2 * fin + 3 * ppl) rfl (by decide) (by omega) ?_ _ 0 (Nat.zero_add _)
  rw [nI_clamp (by omega), (h3 _ (by omega)).2, ckF_cong (f := rI s 3) (g := fun k => nI (f k)) (fun k hk => (h3 k (by omega)).2)]
  have hT := T2_lt h3 (k := 0) (by omega)
  refine br_c (fun q1 => twoC (k := 0) (by omega) h2 h3 (by omega) ?_) (fun q1 => hf (fun z => q1 (by have := z.2.1; rw [em] at this; exact this.symm)))
  rw [show (999 : Int32) = nI 999 from rfl, nI_ltI (by decide) (by omega)]
  refine br_c (fun q2 => hf (fun z => by have := z.2.2.1; omega)) (fun q2 => w_im53 (i := 1) h24 h6 h2 h3 fin (by omega) (fun q3 => ht ⟨rfl, by rw [em]; exact q1.symm, by omega, q3⟩) (fun q3 => hf (fun z => by have := z.2.2.2; rw [q3] at this; cases this)))
theorem w_imR {f : Nat → Nat} {n fin ppl : Nat} {Q : Int32 → sT → Prop} {s : sT} (h24 : fin ≤ 24) (h6 : ppl ≤ 6) (hn : n ≤ 1600) (hF : rI s 193 5 = nI fin) (hP : rI s 193 7 = nI ppl) (h49 : rI s 162 49 = 1) (h3 : tpC s 163 f) (ht : onP f n fin ppl → Q 1 s) (hf : ¬ onP f n fin ppl → Q 0 s) : c12_isImage (nI n) Q s := by
  refine e_c12_isImage (e_c12_finest (fun x hx => br_f (by rw [h49]; decide) (e_c12_personMany ?_)))
  rw [hF, show (2 : Int32) = nI 2 from rfl, pk_mul, nI_add] at hx
  rw [hx, hP, show (3 : Int32) = nI 3 from rfl, pk_mul, nI_add, nI_1, nI_eq (by omega) (by omega)]
  refine br_c (fun q => ?_) (fun q => hf (fun z => q (by have := z.1; omega)))
  have q' : n = 3 + 2 * fin + 3 * ppl := by omega
  subst q'
  have em : 3 + 2 * fin + 3 * ppl - 1 = 2 + 2 * fin + 3 * ppl := by omega
  rw [show (1 : Int32) = nI 1 from rfl, pk_sub (by omega), em]
  refine ⟨vp_in_nI (by omega) (by decide), e_c12_checked (w_ckR (t := 163) (N := 1600) (n := 2 + 2 * fin + 3 * ppl) rfl (by decide) (by omega) ?_ _ 0 (Nat.zero_add _))⟩
  rw [nI_clamp (by omega), (h3 _ (by omega)).2, ckF_cong (f := rI s 163) (g := fun k => nI (f k)) (fun k hk => (h3 k (by omega)).2)]
  have hT := T2_lt h3 (k := 0) (by omega)
  refine br_c (fun q1 => twoR (k := 0) h3 (by omega) ?_) (fun q1 => hf (fun z => q1 (by have := z.2.1; rw [em] at this; exact this.symm)))
  rw [show (999 : Int32) = nI 999 from rfl, nI_ltI (by decide) (by omega)]
  refine br_c (fun q2 => hf (fun z => by have := z.2.2.1; omega)) (fun q2 => w_im66 (i := 1) h24 h6 h3 fin (by omega) (fun q3 => ht ⟨rfl, by rw [em]; exact q1.symm, by omega, q3⟩) (fun q3 => hf (fun z => by have := z.2.2.2; rw [q3] at this; cases this)))
