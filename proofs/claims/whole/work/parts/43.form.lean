-- formulas: what a row of codes tells, by whole numbers
def clip (v : Int) : Int := if 1000000 < v then 1000000 else if v < -1000000 then -1000000 else v
def rg (v : Int) : Prop := -1000000 ≤ v ∧ v ≤ 1000000
def jn (c : Nat) (a b : Int) : Int := match c with
  | 1 => clip (a + b)
  | 2 => clip (a - b)
  | 3 => clip (a * b)
  | 4 => if b = 0 then 0 else a.fdiv b
  | 5 => if a < b then a else b
  | 6 => if b < a then a else b
  | 7 => if a < b then 1 else 0
  | 8 => if b < a then 1 else 0
  | 9 => if a = b then 1 else 0
  | 10 => a * b
  | _ => if 0 < a + b then 1 else 0
def es (ff : Nat → Int) (fo : Nat → Int → Int) (c : Nat) (vs : List Int) : List Int :=
  if 1000 ≤ c then ((c - 1000 : Nat) : Int) :: vs
  else if c = 60 ∨ c = 61 then (match vs with | [] => [] | x :: r => fo c x :: r)
  else if 40 ≤ c then ff (c - 40) :: vs
  else if c = 13 then 1 :: vs
  else if c = 12 then (match vs with | [] => [] | x :: r => (1 - x) :: r)
  else (match vs with | b :: a :: r => jn c a b :: r | r => r)
def ev (ff : Nat → Int) (fo : Nat → Int → Int) : List Nat → List Int → List Int
  | [], vs => vs
  | c :: cs, vs => ev ff fo cs (es ff fo c vs)
/-- the kind of what lies on the pile behind a code: true for what is 1 or 0 -/
def ty1 (al : Nat → Bool) (c : Nat) (st : List Bool) : Option (List Bool) :=
  if 1000 ≤ c then (if c ≤ 10999 ∧ st.length < 60 then some (false :: st) else none)
  else if c = 60 ∨ c = 61 then (match st with | false :: r => (if al c = true then some (false :: r) else none) | _ => none)
  else if 40 ≤ c then (if al c = true ∧ c < 50 ∧ st.length < 60 then some (false :: st) else none)
  else if c = 13 then (if st.length < 60 then some (true :: st) else none)
  else if c = 12 then (match st with | true :: r => some (true :: r) | _ => none)
  else if 1 ≤ c ∧ c ≤ 6 then (match st with | false :: false :: r => some (false :: r) | _ => none)
  else if 7 ≤ c ∧ c ≤ 9 then (match st with | false :: false :: r => some (true :: r) | _ => none)
  else if c = 10 ∨ c = 11 then (match st with | true :: true :: r => some (true :: r) | _ => none)
  else none
def tyL (al : Nat → Bool) : List Nat → List Bool → Option (List Bool)
  | [], st => some st
  | c :: cs, st => (ty1 al c st).bind (tyL al cs)
def tv : List Bool → List Int → Prop
  | [], [] => True
  | true :: st, v :: vs => (v = 0 ∨ v = 1) ∧ tv st vs
  | false :: st, v :: vs => rg v ∧ tv st vs
  | _, _ => False
theorem tv_len : ∀ {st : List Bool} {vs : List Int}, tv st vs → vs.length = st.length
  | [], [], _ => rfl
  | true :: st, v :: vs, h => by simp [tv_len h.2]
  | false :: st, v :: vs, h => by simp [tv_len h.2]
  | [], v :: vs, h => h.elim
  | true :: st, [], h => h.elim
  | false :: st, [], h => h.elim
theorem tv_f {st : List Bool} {vs : List Int} (h : tv (false :: st) vs) : ∃ v r, vs = v :: r ∧ rg v ∧ tv st r := by
  cases vs with
  | nil => exact h.elim
  | cons v r => exact ⟨v, r, rfl, h.1, h.2⟩
theorem tv_t {st : List Bool} {vs : List Int} (h : tv (true :: st) vs) : ∃ v r, vs = v :: r ∧ (v = 0 ∨ v = 1) ∧ tv st r := by
  cases vs with
  | nil => exact h.elim
  | cons v r => exact ⟨v, r, rfl, h.1, h.2⟩
theorem ty1_cases {al : Nat → Bool} {c : Nat} {st st' : List Bool} (h : ty1 al c st = some st') :
    (1000 ≤ c ∧ c ≤ 10999 ∧ st.length < 60 ∧ st' = false :: st) ∨
    ((c = 60 ∨ c = 61) ∧ al c = true ∧ ∃ r, st = false :: r ∧ st' = false :: r) ∨
    (40 ≤ c ∧ c < 50 ∧ al c = true ∧ st.length < 60 ∧ st' = false :: st) ∨
    (c = 13 ∧ st.length < 60 ∧ st' = true :: st) ∨
    (c = 12 ∧ ∃ r, st = true :: r ∧ st' = true :: r) ∨
    (1 ≤ c ∧ c ≤ 6 ∧ ∃ r, st = false :: false :: r ∧ st' = false :: r) ∨
    (7 ≤ c ∧ c ≤ 9 ∧ ∃ r, st = false :: false :: r ∧ st' = true :: r) ∨
    ((c = 10 ∨ c = 11) ∧ ∃ r, st = true :: true :: r ∧ st' = true :: r) := by
  unfold ty1 at h
  split at h
  · split at h
    · rename_i h1 h2; cases h; exact Or.inl ⟨h1, h2.1, h2.2, rfl⟩
    · cases h
  split at h
  · rename_i h0 h1
    split at h
    · split at h
      · rename_i h2; cases h; exact Or.inr (Or.inl ⟨h1, h2, _, rfl, rfl⟩)
      · cases h
    · cases h
  split at h
  · rename_i h0 h1 h2
    split at h
    · rename_i h3; cases h; exact Or.inr (Or.inr (Or.inl ⟨h2, h3.2.1, h3.1, h3.2.2, rfl⟩))
    · cases h
  split at h
  · rename_i h3
    split at h
    · rename_i h4; cases h; exact Or.inr (Or.inr (Or.inr (Or.inl ⟨h3, h4, rfl⟩)))
    · cases h
  split at h
  · rename_i h3
    split at h
    · cases h; exact Or.inr (Or.inr (Or.inr (Or.inr (Or.inl ⟨h3, _, rfl, rfl⟩))))
    · cases h
  split at h
  · rename_i h3
    split at h
    · cases h; exact Or.inr (Or.inr (Or.inr (Or.inr (Or.inr (Or.inl ⟨h3.1, h3.2, _, rfl, rfl⟩)))))
    · cases h
  split at h
  · rename_i h3
    split at h
    · cases h; exact Or.inr (Or.inr (Or.inr (Or.inr (Or.inr (Or.inr (Or.inl ⟨h3.1, h3.2, _, rfl, rfl⟩))))))
    · cases h
  split at h
  · rename_i h3
    split at h
    · cases h; exact Or.inr (Or.inr (Or.inr (Or.inr (Or.inr (Or.inr (Or.inr ⟨h3, _, rfl, rfl⟩))))))
    · cases h
  · cases h
-- the pile, its top first
def pl (f : Nat → Int32) : List Int → Prop
  | [] => True
  | x :: r => (f r.length).toInt = x ∧ pl f r
theorem pl_up {f : Nat → Int32} {k : Nat} {v : Int32} : ∀ {r : List Int}, r.length ≤ k → pl f r → pl (up1 f k v) r
  | [], _, _ => trivial
  | x :: r, h, hp => by
    have h' : r.length + 1 ≤ k := h
    refine ⟨?_, pl_up (by omega) hp.2⟩
    unfold up1
    rw [if_neg (by omega)]
    exact hp.1
theorem pl_put {f : Nat → Int32} {v : Int32} {x : Int} {r : List Int} (hv : v.toInt = x) (hp : pl f r) : pl (up1 f r.length v) (x :: r) := by
  refine ⟨?_, pl_up (Nat.le_refl _) hp⟩
  unfold up1
  rw [if_pos rfl]
  exact hv
def plJ (f : Nat → Int64) : List Int → Prop
  | [] => True
  | x :: r => (f r.length).toInt = x ∧ plJ f r
theorem plJ_up {f : Nat → Int64} {k : Nat} {v : Int64} : ∀ {r : List Int}, r.length ≤ k → plJ f r → plJ (up1 f k v) r
  | [], _, _ => trivial
  | x :: r, h, hp => by
    have h' : r.length + 1 ≤ k := h
    refine ⟨?_, plJ_up (by omega) hp.2⟩
    unfold up1
    rw [if_neg (by omega)]
    exact hp.1
theorem plJ_put {f : Nat → Int64} {v : Int64} {x : Int} {r : List Int} (hv : v.toInt = x) (hp : plJ f r) : plJ (up1 f r.length v) (x :: r) := by
  refine ⟨?_, plJ_up (Nat.le_refl _) hp⟩
  unfold up1
  rw [if_pos rfl]
  exact hv
theorem clip_rg (v : Int) : rg (clip v) := by
  unfold clip rg
  split
  · omega
  · split <;> omega
theorem i32_of {x : Int64} (h1 : -1000000 ≤ x.toInt) (h2 : x.toInt ≤ 1000000) : (Int64.toInt32 x).toInt = x.toInt := by
  rw [Int64.toInt_toInt32]
  exact fb_bmod (by omega) (by omega)
theorem w_hold {v : Int64} {Q : Int32 → sT → Prop} {s : sT} (h : ∀ r : Int32, r.toInt = clip v.toInt → Q r s) : c2_hold v Q s := by
  have e1 : ((1000000 : Int64)).toInt = 1000000 := rfl
  have e2 : ((-1000000 : Int64)).toInt = -1000000 := rfl
  refine e_c2_hold (br_c (fun q => h _ ?_) (fun q => br_c (fun q2 => h _ ?_) (fun q2 => h _ ?_)))
  · rw [fa_lt64, e1] at q
    unfold clip; rw [if_pos q]; rfl
  · rw [fa_lt64, e1] at q
    rw [fa_lt64, e2] at q2
    unfold clip; rw [if_neg q, if_pos q2]; rfl
  · rw [fa_lt64, e1] at q
    rw [fa_lt64, e2] at q2
    unfold clip; rw [if_neg q, if_neg q2]
    exact i32_of (by omega) (by omega)
theorem fd_of {a b q : Int} (hb : b ≠ 0) (hq : q = a.tdiv b) : a.fdiv b = if (a - q * b ≠ 0 ∧ ¬ (a < 0 ↔ b < 0)) then q - 1 else q := by
  subst hq
  have e := Int.tdiv_mul_add_tmod a b
  rw [Int.fdiv_eq_tdiv]
  have e2 : a - a.tdiv b * b = a.tmod b := by omega
  rw [e2]
  by_cases hd : b ∣ a
  · have h1 : a.tmod b = 0 := Int.tmod_eq_zero_of_dvd hd
    rw [if_pos hd, if_neg (fun z => z.1 h1)]
    omega
  · have hm : a.tmod b ≠ 0 := fun q => hd (Int.dvd_of_tmod_eq_zero q)
    have ha : a ≠ 0 := fun q => hd (by rw [q]; exact Int.dvd_zero b)
    rw [if_neg hd]
    rcases Int.lt_or_gt_of_ne ha with h1 | h1 <;> rcases Int.lt_or_gt_of_ne hb with h2 | h2
    · rw [if_neg (show ¬ 0 ≤ a by omega), if_neg (show ¬ 0 ≤ b by omega), Int.sign_eq_neg_one_of_neg h2, if_neg (fun z => z.2 ⟨fun _ => h2, fun _ => h1⟩)]
      omega
    · rw [if_neg (show ¬ 0 ≤ a by omega), if_pos (show 0 ≤ b by omega), Int.sign_eq_one_of_pos h2, if_pos ⟨hm, fun z => by have := z.1 h1; omega⟩]
    · rw [if_pos (show 0 ≤ a by omega), if_neg (show ¬ 0 ≤ b by omega), if_pos ⟨hm, fun z => by have := z.2 h2; omega⟩]
    · rw [if_pos (show 0 ≤ a by omega), if_pos (show 0 ≤ b by omega), if_neg (fun z => z.2 ⟨fun q => by omega, fun q => by omega⟩)]
      omega
theorem xor_neg (a b : Int32) : (a ^^^ b) < 0 ↔ ¬ (a.toInt < 0 ↔ b.toInt < 0) := by
  have h : ∀ z : Int32, (z < 0 ↔ z.toBitVec.msb = true) := fun z => by
    rw [fa_lt, BitVec.msb_eq_toInt]
    show z.toInt < 0 ↔ decide (z.toBitVec.toInt < 0) = true
    rw [decide_eq_true_iff]
    rfl
  have h2 : ∀ z : Int32, (z.toInt < 0 ↔ z.toBitVec.msb = true) := fun z => by rw [← h z, fa_lt]; rfl
  rw [h, h2, h2, Int32.toBitVec_xor, BitVec.msb_xor]
  cases a.toBitVec.msb <;> cases b.toBitVec.msb <;> simp
theorem w_floor {a b : Int32} {Q : Int32 → sT → Prop} {s : sT} (ha : rg a.toInt) (hb : rg b.toInt) (h0 : b.toInt ≠ 0) (h : ∀ r : Int32, r.toInt = a.toInt.fdiv b.toInt → Q r s) : cj9_floorDiv_7cf53 a b Q s := by
  have hb0 : ¬ b = 0 := fun q => h0 (by rw [q]; rfl)
  refine e_cj9_floorDiv_7cf53 ⟨hb0, fun x e => ?_⟩
  have hx : x.toInt = a.toInt.tdiv b.toInt := by
    rw [e]
    by_cases hm : b = -1
    · have ham : a ≠ Int32.minValue := fun q => by
        have h1 := ha.1
        rw [q] at h1
        exact absurd h1 (by decide)
      exact Int32.toInt_div_of_ne_left a b ham
    · exact Int32.toInt_div_of_ne_right a b hm
  have hF := fd_of h0 hx
  have hx2 : -1000000 ≤ x.toInt ∧ x.toInt ≤ 1000000 := by
    have h1 : (a.toInt.tdiv b.toInt).natAbs ≤ a.toInt.natAbs := by
      rw [Int.natAbs_tdiv]; exact Nat.div_le_self _ _
    have := ha.1
    have := ha.2
    omega
  have hxb : (x * b).toInt = x.toInt * b.toInt := by
    have e1 : (x.toInt * b.toInt).natAbs ≤ a.toInt.natAbs := by
      have h4 : (x.toInt * b.toInt).natAbs = (a.toInt.natAbs / b.toInt.natAbs) * b.toInt.natAbs := by rw [Int.natAbs_mul, hx, Int.natAbs_tdiv]; rfl
      rw [h4]
      exact Nat.div_mul_le_self _ _
    have := ha.1
    have := ha.2
    exact fb_mulI (by omega) (by omega)
  have hs1 : (x - 1).toInt = x.toInt - 1 := fb_subI (by show _ ≤ x.toInt - 1; omega) (by show x.toInt - 1 < _; omega)
  refine br_c (fun q => br_c (fun q2 => h _ ?_) (fun q2 => h _ ?_)) (fun q => h _ ?_)
  · rw [fa_eq, hxb] at q2
    rw [hF, if_neg (by omega)]
  · rw [fa_eq, hxb] at q2
    rw [xor_neg] at q
    rw [hF, if_pos ⟨by omega, q⟩, hs1]
  · rw [xor_neg] at q
    rw [hF, if_neg (fun z => q z.2)]
theorem wide (a : Int32) : (Int32.toInt64 a).toInt = a.toInt := Int32.toInt_toInt64 a
theorem mul_rg {a b : Int} (ha : rg a) (hb : rg b) : -1000000000000 ≤ a * b ∧ a * b ≤ 1000000000000 := by
  have h1 : (a * b).natAbs ≤ 1000000 * 1000000 := by
    rw [Int.natAbs_mul]
    have := ha.1; have := ha.2; have := hb.1; have := hb.2
    exact Nat.mul_le_mul (by omega) (by omega)
  omega
theorem bool_and {a b : Int32} {x y : Int} (ha : a.toInt = x) (hb : b.toInt = y) (hx : x = 0 ∨ x = 1) (hy : y = 0 ∨ y = 1) : (a &&& b).toInt = x * y ∧ (a ||| b).toInt = (if 0 < x + y then 1 else 0) := by
  have f : ∀ z : Int32, z.toInt = 0 → z = 0 := fun z h => (fa_eq z 0).2 h
  have g : ∀ z : Int32, z.toInt = 1 → z = 1 := fun z h => (fa_eq z 1).2 h
  rcases hx with rfl | rfl <;> rcases hy with rfl | rfl
  · rw [f a ha, f b hb]; decide
  · rw [f a ha, g b hb]; decide
  · rw [g a ha, f b hb]; decide
  · rw [g a ha, g b hb]; decide
theorem jn_k {c : Nat} (hc : 1 ≤ c ∧ c ≤ 11) : c = 1 ∨ c = 2 ∨ c = 3 ∨ c = 4 ∨ c = 5 ∨ c = 6 ∨ c = 7 ∨ c = 8 ∨ c = 9 ∨ c = 10 ∨ c = 11 := by omega
theorem w_join {c : Nat} {a b : Int32} {x y : Int} {Q : Int32 → sT → Prop} {s : sT} (ha : a.toInt = x) (hb : b.toInt = y) (hc : (1 ≤ c ∧ c ≤ 9 ∧ rg x ∧ rg y) ∨ ((c = 10 ∨ c = 11) ∧ (x = 0 ∨ x = 1) ∧ (y = 0 ∨ y = 1))) (h : ∀ r : Int32, r.toInt = jn c x y → Q r s) : c2_join (nI (c + 4)) a b Q s := by
  subst ha
  subst hb
  refine e_c2_join ?_
  rcases hc with ⟨h1, h2, ra, rb⟩ | ⟨h1, ra, rb⟩
  · have r1 := ra.1; have r2 := ra.2; have r3 := rb.1; have r4 := rb.2
    have k : c = 1 ∨ c = 2 ∨ c = 3 ∨ c = 4 ∨ c = 5 ∨ c = 6 ∨ c = 7 ∨ c = 8 ∨ c = 9 := by omega
    rcases k with rfl | rfl | rfl | rfl | rfl | rfl | rfl | rfl | rfl
    · refine br_t (by decide) (w_hold fun r hr => h r ?_)
      rw [hr, fb_addL (by rw [wide, wide]; omega) (by rw [wide, wide]; omega), wide, wide]; rfl
    · refine br_f (by decide) (br_t (by decide) (w_hold fun r hr => h r ?_))
      rw [hr, fb_subL (by rw [wide, wide]; omega) (by rw [wide, wide]; omega), wide, wide]; rfl
    · have m := mul_rg ra rb
      refine br_f (by decide) (br_f (by decide) (br_t (by decide) (w_hold fun r hr => h r ?_)))
      rw [hr, fb_mulL (by rw [wide, wide]; omega) (by rw [wide, wide]; omega), wide, wide]; rfl
    · refine br_f (by decide) (br_f (by decide) (br_f (by decide) (br_t (by decide) (br_c (fun q => h _ ?_) (fun q => w_floor ra rb ?_ (fun r hr => h r ?_))))))
      · show _ = if b.toInt = 0 then 0 else _
        rw [if_pos (by rw [q]; rfl)]; rfl
      · exact fun z => q ((fa_eq b 0).2 z)
      · rw [hr]
        show _ = if b.toInt = 0 then 0 else _
        rw [if_neg (show ¬ b.toInt = 0 from fun z => q ((fa_eq b 0).2 z))]
    · refine br_f (by decide) (br_f (by decide) (br_f (by decide) (br_f (by decide) (br_t (by decide) (h _ ?_)))))
      show _ = if a.toInt < b.toInt then a.toInt else b.toInt
      split
      · rename_i q; rw [fa_lt] at q; split <;> omega
      · rename_i q; rw [fa_lt] at q; split <;> omega
    · refine br_f (by decide) (br_f (by decide) (br_f (by decide) (br_f (by decide) (br_f (by decide) (br_t (by decide) (h _ ?_))))))
      show _ = if b.toInt < a.toInt then a.toInt else b.toInt
      split
      · rename_i q; rw [fa_lt] at q; split <;> omega
      · rename_i q; rw [fa_lt] at q; split <;> omega
    · refine br_f (by decide) (br_f (by decide) (br_f (by decide) (br_f (by decide) (br_f (by decide) (br_f (by decide) (br_t (by decide) (br_c (fun q => h _ ?_) (fun q => h _ ?_))))))))
      · show _ = if a.toInt < b.toInt then (1 : Int) else 0
        rw [fa_lt] at q; rw [if_pos q]; rfl
      · show _ = if a.toInt < b.toInt then (1 : Int) else 0
        rw [fa_lt] at q; rw [if_neg q]; rfl
    · refine br_f (by decide) (br_f (by decide) (br_f (by decide) (br_f (by decide) (br_f (by decide) (br_f (by decide) (br_f (by decide) (br_t (by decide) (br_c (fun q => h _ ?_) (fun q => h _ ?_)))))))))
      · show _ = if b.toInt < a.toInt then (1 : Int) else 0
        rw [fa_lt] at q; rw [if_pos q]; rfl
      · show _ = if b.toInt < a.toInt then (1 : Int) else 0
        rw [fa_lt] at q; rw [if_neg q]; rfl
    · refine br_f (by decide) (br_f (by decide) (br_f (by decide) (br_f (by decide) (br_f (by decide) (br_f (by decide) (br_f (by decide) (br_f (by decide) (br_t (by decide) (br_c (fun q => h _ ?_) (fun q => h _ ?_))))))))))
      · show _ = if a.toInt = b.toInt then (1 : Int) else 0
        rw [fa_eq] at q; rw [if_pos q]; rfl
      · show _ = if a.toInt = b.toInt then (1 : Int) else 0
        rw [fa_eq] at q; rw [if_neg q]; rfl
  · have m := bool_and rfl rfl ra rb
    rcases h1 with rfl | rfl
    · refine br_f (by decide) (br_f (by decide) (br_f (by decide) (br_f (by decide) (br_f (by decide) (br_f (by decide) (br_f (by decide) (br_f (by decide) (br_f (by decide) (br_t (by decide) (h _ ?_))))))))))
      exact m.1
    · refine br_f (by decide) (br_f (by decide) (br_f (by decide) (br_f (by decide) (br_f (by decide) (br_f (by decide) (br_f (by decide) (br_f (by decide) (br_f (by decide) (br_f (by decide) (h _ ?_))))))))))
      exact m.2

/-- a code as a step of the class -/
def trc (c : Nat) : Nat :=
  if 1000 ≤ c then (c - 1000) * 16
  else if c = 60 then 3
  else if c = 61 then 4
  else if 40 ≤ c then (c - 40) * 16 + 1
  else if c = 13 then 16
  else if c = 12 then 2
  else c + 4
/-- what the class knows of the facts: a row t of 36 numbers -/
def fac (s : sT) (t : Nat) (al : Nat → Bool) (ff : Nat → Int) (fo : Nat → Int → Int) : Prop :=
  LN t = 36 ∧ (∀ k, k < 10 → al (40 + k) = true → (rI s t k).toInt = ff k ∧ rg (ff k)) ∧
  (al 60 = true → ∀ n : Nat, 1 ≤ n → n ≤ 24 → (rI s t (11 + n)).toInt = fo 60 n ∧ rg (fo 60 n)) ∧
  (al 61 = true → ∃ F : Nat, F < 2 ^ 24 ∧ rI s t 10 = nI F ∧ ∀ n : Nat, 1 ≤ n → n ≤ 24 → fo 61 n = if F.testBit (n - 1) then 1 else 0) ∧
  ∀ c, ∀ n : Int, n < 1 ∨ 24 < n → fo c n = 0
theorem nI_e {a b : Nat} (h : a = b) : nI a = nI b := by rw [h]
theorem i_nI {x : Int32} {n : Nat} (hn : n < 2147483648) (h : x.toInt = n) : x = nI n := (fa_eq _ _).2 (by rw [nI_toInt (by omega)]; exact h)
theorem w_fact {t : Nat} {k : Nat} {Q : Int32 → sT → Prop} {s : sT} (hl : LN t = 36) (hk : k < 36) (h : Q (rI s t k) s) : c2_factAt t (nI k) Q s := by
  refine e_c2_factAt (br_f (nI_pos (by omega)) (br_t ?_ ⟨vp_in_nI (by omega) (by omega), ?_⟩))
  · rw [hl]; exact nI_lt (by omega) (by omega)
  · rw [nI_clamp (by omega)]; exact h
theorem w_turn12 {t : Nat} {a : Int32} {x : Int} {Q : Int32 → sT → Prop} {s : sT} (ha : a.toInt = x) (hx : x = 0 ∨ x = 1) (h : ∀ r : Int32, r.toInt = 1 - x → Q r s) : c2_turn t (nI 2) a Q s := by
  refine e_c2_turn (br_t (by decide) (h _ ?_))
  subst ha
  exact fb_subI (by show _ ≤ 1 - a.toInt; omega) (by show 1 - a.toInt < _; omega)
theorem w_turnO {t : Nat} {c : Nat} {a : Int32} {x : Int} {al : Nat → Bool} {ff : Nat → Int} {fo : Nat → Int → Int} {Q : Int32 → sT → Prop} {s : sT} (F : fac s t al ff fo) (hc : c = 60 ∨ c = 61) (hal : al c = true) (ha : a.toInt = x) (hx : rg x) (h : ∀ r : Int32, r.toInt = fo c x → rg (fo c x) → Q r s) : c2_turn t (nI (trc c)) a Q s := by
  obtain ⟨hl, -, h60, h61, hz⟩ := F
  subst ha
  have k2 : ¬ nI (trc c) = (2 : Int32) := by rcases hc with rfl | rfl <;> decide
  refine e_c2_turn (br_f k2 (br_c (fun q => h _ ?_ ?_) (fun q => br_c (fun q2 => h _ ?_ ?_) (fun q2 => ?_))))
  · rw [fa_lt] at q
    rw [hz _ _ (Or.inl q)]; rfl
  · rw [fa_lt] at q
    rw [hz _ _ (Or.inl q)]; exact ⟨by decide, by decide⟩
  · rw [fa_lt] at q2
    rw [hz _ _ (Or.inr q2)]; rfl
  · rw [fa_lt] at q2
    rw [hz _ _ (Or.inr q2)]; exact ⟨by decide, by decide⟩
  · rw [fa_lt] at q q2
    have q' : ¬ a.toInt < 1 := q
    have q2' : ¬ (24 : Int) < a.toInt := q2
    obtain ⟨n, hn⟩ : ∃ n : Nat, (n : Int) = a.toInt := ⟨a.toInt.toNat, by omega⟩
    have hn1 : 1 ≤ n := by omega
    have hn2 : n ≤ 24 := by omega
    have ea : a = nI n := i_nI (by omega) hn.symm
    rcases hc with rfl | rfl
    · refine br_t (by decide) ?_
      rw [ea, show (11 : Int32) = nI 11 from rfl, nI_add]
      obtain ⟨g1, g2⟩ := h60 hal n hn1 hn2
      rw [hn] at g1 g2
      exact w_fact hl (by omega) (h _ g1 g2)
    · refine br_f (by decide) ?_
      obtain ⟨G, hG, eG, hb⟩ := h61 hal
      refine w_fact (k := 10) hl (by omega) ?_
      rw [eG, ea, show (1 : Int32) = nI 1 from rfl, pk_sub hn1]
      have e : nI G >>> (nI (n - 1) &&& 31) &&& nI 1 = nI (if G.testBit (n - 1) then 1 else 0) := bit_at (by omega) (by omega)
      rw [e]
      have hb' := hb n hn1 hn2
      rw [hn] at hb'
      refine h _ ?_ ?_
      · rw [hb']
        split <;> rfl
      · rw [hb']
        split <;> exact ⟨by decide, by decide⟩
theorem wI_wC (s : sT) (a : Nat) (f : Nat → Int32) (j : Nat) (v : Int32) : wI (wC s a f) a j v = wC s a (up1 f j v) := by
  refine st_ext (fun b k => ?_) (fun _ _ => rfl) rfl
  rw [rI_wI, rI_wC, rI_wC]
  unfold up1
  by_cases h : b = a
  · by_cases h2 : k = j
    · simp [h, h2]
    · simp [h, h2]
  · simp [h]
theorem fac_wC {s : sT} {t a : Nat} {g : Nat → Int32} {al : Nat → Bool} {ff : Nat → Int} {fo : Nat → Int → Int} (h : t ≠ a) (F : fac s t al ff fo) : fac (wC s a g) t al ff fo := by
  have e : ∀ k, rI (wC s a g) t k = rI s t k := fun k => by rw [rI_wC, if_neg h]
  obtain ⟨h1, h2, h3, h4, h5⟩ := F
  refine ⟨h1, fun k hk ha => ?_, fun ha n h1 h2 => ?_, fun ha => ?_, h5⟩
  · rw [e]; exact h2 k hk ha
  · rw [e]; exact h3 ha n h1 h2
  · rw [e]; exact h4 ha
theorem tv1 {st : List Bool} {v : Int} {vs : List Int} (hv : rg v) (h : tv st vs) : tv (false :: st) (v :: vs) := ⟨hv, h⟩
theorem tv2 {st : List Bool} {v : Int} {vs : List Int} (hv : v = 0 ∨ v = 1) (h : tv st vs) : tv (true :: st) (v :: vs) := ⟨hv, h⟩
theorem fdiv_rg {a b : Int} (ha : rg a) (hb : b ≠ 0) : rg (a.fdiv b) := by
  have h1 : (a.tdiv b).natAbs ≤ a.natAbs := by
    rw [Int.natAbs_tdiv]; exact Nat.div_le_self _ _
  have hF := fd_of hb rfl (a := a)
  have := ha.1
  have := ha.2
  by_cases hz : a - a.tdiv b * b ≠ 0 ∧ ¬ (a < 0 ↔ b < 0)
  · rw [hF, if_pos hz]
    -- the rest is not nothing, so b is not 1 or -1, or a is less
    have h4 : (a.tdiv b).natAbs < a.natAbs ∨ a.natAbs = 0 := by
      rcases Nat.eq_zero_or_pos a.natAbs with q | q
      · exact Or.inr q
      · refine Or.inl ?_
        rw [Int.natAbs_tdiv]
        refine Nat.div_lt_self q ?_
        have hb1 : b.natAbs ≠ 1 := fun e => by
          have e2 : b = 1 ∨ b = -1 := by omega
          rcases e2 with rfl | rfl
          · rw [Int.tdiv_one] at hz; omega
          · rw [Int.tdiv_neg, Int.tdiv_one] at hz; omega
        have : b.natAbs ≠ 0 := fun e => hb (Int.natAbs_eq_zero.1 e)
        omega
    have h5 : a.natAbs ≠ 0 := fun e => by
      have : a = 0 := Int.natAbs_eq_zero.1 e
      subst this
      rw [Int.zero_tdiv] at hz
      omega
    unfold rg
    omega
  · rw [hF, if_neg hz]
    unfold rg
    omega
theorem jn_rg {c : Nat} {x y : Int} (hc : 1 ≤ c ∧ c ≤ 6) (ra : rg x) (rb : rg y) : rg (jn c x y) := by
  have k : c = 1 ∨ c = 2 ∨ c = 3 ∨ c = 4 ∨ c = 5 ∨ c = 6 := by omega
  rcases k with rfl | rfl | rfl | rfl | rfl | rfl
  · exact clip_rg _
  · exact clip_rg _
  · exact clip_rg _
  · show rg (if y = 0 then 0 else x.fdiv y)
    split
    · exact ⟨by decide, by decide⟩
    · rename_i q; exact fdiv_rg ra q
  · show rg (if x < y then x else y)
    split
    · exact ra
    · exact rb
  · show rg (if y < x then x else y)
    split
    · exact ra
    · exact rb
theorem if01 (p : Prop) [Decidable p] : (if p then (1 : Int) else 0) = 0 ∨ (if p then (1 : Int) else 0) = 1 := by
  split
  · exact Or.inr rfl
  · exact Or.inl rfl
theorem jn_b {c : Nat} {x y : Int} (hc : 7 ≤ c ∧ c ≤ 9) : jn c x y = 0 ∨ jn c x y = 1 := by
  have k : c = 7 ∨ c = 8 ∨ c = 9 := by omega
  rcases k with rfl | rfl | rfl
  · exact if01 (x < y)
  · exact if01 (y < x)
  · exact if01 (x = y)
theorem jn_bb {c : Nat} {x y : Int} (hc : c = 10 ∨ c = 11) (hx : x = 0 ∨ x = 1) (hy : y = 0 ∨ y = 1) : jn c x y = 0 ∨ jn c x y = 1 := by
  rcases hc with rfl | rfl <;> rcases hx with rfl | rfl <;> rcases hy with rfl | rfl <;> decide
theorem ty1_len {al : Nat → Bool} {c : Nat} {st st' : List Bool} (hc : ty1 al c st = some st') (h : st.length ≤ 60) : st'.length ≤ 60 := by
  rcases ty1_cases hc with ⟨-, -, h1, rfl⟩ | ⟨-, -, r, rfl, rfl⟩ | ⟨-, -, -, h1, rfl⟩ | ⟨-, h1, rfl⟩ | ⟨-, r, rfl, rfl⟩ | ⟨-, -, r, rfl, rfl⟩ | ⟨-, -, r, rfl, rfl⟩ | ⟨-, r, rfl, rfl⟩ <;> simp only [List.length_cons] at * <;> omega
theorem w_rstep {t0 t1 c i N : Nat} {al : Nat → Bool} {ff : Nat → Int} {fo : Nat → Int → Int} {st st' : List Bool} {vs : List Int} {f : Nat → Int32} {Q : Int32 → sT → Prop} {s : sT} (hne : t1 ≠ t0 + 2) (F : fac s t1 al ff fo) (hN : rI s t0 2 = nI N) (hi : i < N) (hN2 : N ≤ 1600) (hs : rI s (t0 + 1) i = nI (trc c)) (hc : ty1 al c st = some st') (hsl : st.length ≤ 60) (hv : tv st vs) (hp : pl f vs)
    (h : ∀ g, tv st' (es ff fo c vs) → pl g (es ff fo c vs) → c2_reckon_4 t0 t1 (nI (es ff fo c vs).length) (nI (i + 1)) Q (wC s (t0 + 2) g)) : c2_reckon_4 t0 t1 (nI vs.length) (nI i) Q (wC s (t0 + 2) f) := by
  have hl := tv_len hv
  have F2 : fac (wC s (t0 + 2) f) t1 al ff fo := fac_wC hne F
  have hst : rI (wC s (t0 + 2) f) (t0 + 1) i = nI (trc c) := by rw [rI_wC, if_neg (by omega)]; exact hs
  have hpile : ∀ k, rI (wC s (t0 + 2) f) (t0 + 2) k = f k := fun k => by rw [rI_wC, if_pos rfl]
  have ht : trc c < 200000 := by
    rcases ty1_cases hc with ⟨h1, h2, -⟩ | ⟨h1, -⟩ | ⟨h1, h2, -⟩ | ⟨h1, -⟩ | ⟨h1, -⟩ | ⟨h1, h2, -⟩ | ⟨h1, h2, -⟩ | ⟨h1, -⟩ <;> unfold trc <;> (repeat' split) <;> omega
  have hd : nI (trc c) / (16 : Int32) = nI (trc c / 16) := pk_div (by omega) (by decide) (by decide)
  have hr : nI (trc c) - nI (trc c) / (16 : Int32) * (16 : Int32) = nI (trc c % 16) := pk_rem (by omega) (by decide) (by decide)
  refine e_c2_reckon_4 (br_t ?_ (br_t (nI_lt (b := 1600) (by omega) (by decide)) ⟨vp_in_nI (by omega) (by decide), fun x hx => ?_⟩))
  · rw [rI_wC, if_neg (by omega), hN]
    exact nI_lt hi (by omega)
  rw [nI_clamp (by omega), hst, hr] at hx
  subst hx
  rcases ty1_cases hc with ⟨h1, h2, h3, rfl⟩ | ⟨h1, ha, r, rfl, rfl⟩ | ⟨h1, h2, ha, h3, rfl⟩ | ⟨rfl, h3, rfl⟩ | ⟨rfl, r, rfl, rfl⟩ | ⟨h1, h2, r, rfl, rfl⟩ | ⟨h1, h2, r, rfl, rfl⟩ | ⟨h1, r, rfl, rfl⟩
  · have e1 : trc c = (c - 1000) * 16 := by unfold trc; rw [if_pos h1]
    have e2 : es ff fo c vs = ((c - 1000 : Nat) : Int) :: vs := by unfold es; rw [if_pos h1]
    have e3 : trc c % 16 = 0 := by omega
    have e4 : trc c / 16 = c - 1000 := by omega
    rw [e2] at h
    rw [e3]
    refine br_f (by decide) (br_t (nI_lt (b := 64) (by omega) (by decide)) ⟨vp_in_nI (by omega) (by decide), fun y hy => br_t (by decide) ⟨vp_in_nI (by omega) (by decide), fun u hu => ?_⟩⟩)
    rw [nI_clamp (by omega), hst, hd, e4] at hy
    rw [nI_clamp (by omega), wI_wC] at hu
    subst hu
    rw [nI_1, nI_1]
    have g1 : y.toInt = ((c - 1000 : Nat) : Int) := by rw [hy]; exact nI_toInt (by omega)
    exact h _ (tv1 ⟨by omega, by omega⟩ hv) (pl_put g1 hp)
  · have e1 : trc c % 16 = trc c ∧ 2 < trc c ∧ trc c ≤ 4 := by rcases h1 with rfl | rfl <;> decide
    obtain ⟨v, w, rfl, hv1, hv2⟩ := tv_f hv
    have e2 : es ff fo c (v :: w) = fo c v :: w := by rcases h1 with rfl | rfl <;> rfl
    rw [e2] at h
    rw [e1.1]
    simp only [List.length_cons] at hl hsl ⊢
    refine br_t (nI_lt (a := 1) (by omega) (by omega)) (br_f (nI_nlt (a := 4) (by omega) (by omega)) (br_t (nI_lt (a := 0) (by omega) (by omega)) ⟨?_, ?_⟩))
    · rw [nI_pred]; exact vp_in_nI (by omega) (by decide)
    · rw [nI_pred, nI_clamp (by omega), hpile]
      refine w_turnO F2 h1 ha hp.1 hv1 (fun r hr1 hr2 => ⟨vp_in_nI (by omega) (by decide), fun u hu => ?_⟩)
      rw [wI_wC] at hu
      subst hu
      rw [nI_1]
      exact h _ (tv1 hr2 hv2) (pl_put hr1 hp.2)
  · have e1 : trc c = (c - 40) * 16 + 1 := by
      unfold trc
      rw [if_neg (by omega), if_neg (by omega), if_neg (by omega), if_pos h1]
    have e2 : es ff fo c vs = ff (c - 40) :: vs := by
      unfold es
      rw [if_neg (by omega), if_neg (by omega), if_pos h1]
    have e3 : trc c % 16 = 1 := by omega
    have e4 : trc c / 16 = c - 40 := by omega
    rw [e2] at h
    rw [e3]
    refine br_f (by decide) (br_t (nI_lt (b := 64) (by omega) (by decide)) ⟨vp_in_nI (by omega) (by decide), fun y hy => br_f (by decide) ?_⟩)
    rw [nI_clamp (by omega), hst, hd, e4] at hy
    subst hy
    have hk := F2.2.1 (c - 40) (by omega) (by rw [show 40 + (c - 40) = c by omega]; exact ha)
    refine w_fact F2.1 (by omega) ⟨vp_in_nI (by omega) (by decide), fun u hu => ?_⟩
    rw [nI_clamp (by omega), wI_wC] at hu
    subst hu
    rw [nI_1, nI_1]
    exact h _ (tv1 hk.2 hv) (pl_put hk.1 hp)
  · have e2 : es ff fo 13 vs = 1 :: vs := rfl
    rw [e2] at h
    refine br_f (by decide) (br_t (nI_lt (b := 64) (by omega) (by decide)) ⟨vp_in_nI (by omega) (by decide), fun y hy => br_t (by decide) ⟨vp_in_nI (by omega) (by decide), fun u hu => ?_⟩⟩)
    rw [nI_clamp (by omega), hst, hd] at hy
    rw [nI_clamp (by omega), wI_wC] at hu
    subst hu
    rw [nI_1, nI_1]
    have g1 : y.toInt = 1 := by rw [hy]; rfl
    exact h _ (tv2 (Or.inr rfl) hv) (pl_put g1 hp)
  · obtain ⟨v, w, rfl, hv1, hv2⟩ := tv_t hv
    have e2 : es ff fo 12 (v :: w) = (1 - v) :: w := rfl
    rw [e2] at h
    simp only [List.length_cons] at hl hsl ⊢
    refine br_t (by decide) (br_f (by decide) (br_t (nI_lt (a := 0) (by omega) (by omega)) ⟨?_, ?_⟩))
    · rw [nI_pred]; exact vp_in_nI (by omega) (by decide)
    · rw [nI_pred, nI_clamp (by omega), hpile]
      refine w_turn12 hp.1 hv1 (fun r hr1 => ⟨vp_in_nI (by omega) (by decide), fun u hu => ?_⟩)
      rw [wI_wC] at hu
      subst hu
      rw [nI_1]
      exact h _ (tv2 (by omega) hv2) (pl_put hr1 hp.2)
  all_goals
    have hb : 1 ≤ c ∧ c ≤ 11 := by omega
    have e1 : trc c = c + 4 := by
      unfold trc
      rw [if_neg (by omega), if_neg (by omega), if_neg (by omega), if_neg (by omega), if_neg (by omega), if_neg (by omega)]
    have e3 : trc c % 16 = c + 4 := by omega
    have e2 : ∀ b a w, es ff fo c (b :: a :: w) = jn c a b :: w := fun b a w => by
      unfold es
      rw [if_neg (by omega), if_neg (by omega), if_neg (by omega), if_neg (by omega), if_neg (by omega)]
    rw [e3]
    simp only [List.length_cons] at hsl
  · obtain ⟨b, w1, rfl, hb1, hv2⟩ := tv_f hv
    obtain ⟨a, w, rfl, ha1, hv3⟩ := tv_f hv2
    rw [e2] at h
    simp only [List.length_cons] at hl ⊢
    refine br_t (nI_lt (a := 1) (by omega) (by omega)) (br_t (nI_lt (a := 4) (by omega) (by omega)) (br_t (nI_lt (a := 1) (by omega) (by omega)) ?_))
    rw [show nI (w.length + 1 + 1) + (-1 : Int32) = nI (w.length + 1) from pk_m1 _, nI_pred, nI_clamp (by omega), nI_clamp (by omega), hpile, hpile]
    refine ⟨vp_in_nI (by omega) (by decide), vp_in_nI (by omega) (by decide), w_join hp.2.1 hp.1 (Or.inl ⟨h1, by omega, ha1, hb1⟩) (fun r hr1 => ⟨vp_in_nI (by omega) (by decide), fun u hu => ?_⟩)⟩
    rw [wI_wC] at hu
    subst hu
    rw [nI_1]
    exact h _ (tv1 (jn_rg ⟨h1, h2⟩ ha1 hb1) hv3) (pl_put hr1 hp.2.2)
  · obtain ⟨b, w1, rfl, hb1, hv2⟩ := tv_f hv
    obtain ⟨a, w, rfl, ha1, hv3⟩ := tv_f hv2
    rw [e2] at h
    simp only [List.length_cons] at hl ⊢
    refine br_t (nI_lt (a := 1) (by omega) (by omega)) (br_t (nI_lt (a := 4) (by omega) (by omega)) (br_t (nI_lt (a := 1) (by omega) (by omega)) ?_))
    rw [show nI (w.length + 1 + 1) + (-1 : Int32) = nI (w.length + 1) from pk_m1 _, nI_pred, nI_clamp (by omega), nI_clamp (by omega), hpile, hpile]
    refine ⟨vp_in_nI (by omega) (by decide), vp_in_nI (by omega) (by decide), w_join hp.2.1 hp.1 (Or.inl ⟨by omega, by omega, ha1, hb1⟩) (fun r hr1 => ⟨vp_in_nI (by omega) (by decide), fun u hu => ?_⟩)⟩
    rw [wI_wC] at hu
    subst hu
    rw [nI_1]
    exact h _ (tv2 (jn_b ⟨h1, h2⟩) hv3) (pl_put hr1 hp.2.2)
  · obtain ⟨b, w1, rfl, hb1, hv2⟩ := tv_t hv
    obtain ⟨a, w, rfl, ha1, hv3⟩ := tv_t hv2
    rw [e2] at h
    simp only [List.length_cons] at hl ⊢
    refine br_t (nI_lt (a := 1) (by omega) (by omega)) (br_t (nI_lt (a := 4) (by omega) (by omega)) (br_t (nI_lt (a := 1) (by omega) (by omega)) ?_))
    rw [show nI (w.length + 1 + 1) + (-1 : Int32) = nI (w.length + 1) from pk_m1 _, nI_pred, nI_clamp (by omega), nI_clamp (by omega), hpile, hpile]
    refine ⟨vp_in_nI (by omega) (by decide), vp_in_nI (by omega) (by decide), w_join hp.2.1 hp.1 (Or.inr ⟨h1, ha1, hb1⟩) (fun r hr1 => ⟨vp_in_nI (by omega) (by decide), fun u hu => ?_⟩)⟩
    rw [wI_wC] at hu
    subst hu
    rw [nI_1]
    exact h _ (tv2 (jn_bb h1 ha1 hb1) hv3) (pl_put hr1 hp.2.2)
theorem w_reckon_4 {t0 t1 N : Nat} {al : Nat → Bool} {ff : Nat → Int} {fo : Nat → Int → Int} {st' : List Bool} {Q : Int32 → sT → Prop} {s : sT} (hne : t1 ≠ t0 + 2) (F : fac s t1 al ff fo) (hN : rI s t0 2 = nI N) (hN2 : N ≤ 1600) : ∀ (cs : List Nat) (i : Nat) (st : List Bool) (vs : List Int) (f : Nat → Int32), i + cs.length = N → (∀ k (h : k < cs.length), rI s (t0 + 1) (i + k) = nI (trc cs[k])) → tyL al cs st = some st' → st.length ≤ 60 → tv st vs → pl f vs → (∀ g, tv st' (ev ff fo cs vs) → pl g (ev ff fo cs vs) → 0 < (ev ff fo cs vs).length ∧ Q (g 0) (wC s (t0 + 2) g)) → c2_reckon_4 t0 t1 (nI vs.length) (nI i) Q (wC s (t0 + 2) f)
  | [], i, st, vs, f, hi, hs, ht, hsl, hv, hp, h => by
    have e : i = N := hi
    subst e
    cases ht
    obtain ⟨h1, h2⟩ := h f hv hp
    have hvl : vs.length < 2 ^ 31 := by rw [tv_len hv]; omega
    have h1' : 0 < vs.length := h1
    refine e_c2_reckon_4 (br_f ?_ (br_t (nI_lt h1' hvl) ⟨vp_in_nI (n := 0) (by decide) (by decide), ?_⟩))
    · rw [rI_wC, if_neg (by omega), hN]
      exact nI_nlt (Nat.le_refl _) (by omega)
    · rw [rI_wC, if_pos rfl]
      exact h2
  | c :: cs, i, st, vs, f, hi, hs, ht, hsl, hv, hp, h => by
    unfold tyL at ht
    cases hc : ty1 al c st with
    | none => rw [hc] at ht; cases ht
    | some st1 =>
      rw [hc] at ht
      have hi2 : i + (cs.length + 1) = N := hi
      refine w_rstep hne F hN (by omega) hN2 (hs 0 (by simp)) hc hsl hv hp (fun g hg hpg => ?_)
      refine w_reckon_4 hne F hN hN2 cs (i + 1) st1 _ g (by omega) (fun k hk => ?_) ht (ty1_len hc hsl) hg hpg h
      have := hs (k + 1) (by simp; omega)
      rw [show i + 1 + k = i + (k + 1) by omega]
      exact this
/-- the class reckons a formula -/
theorem w_reckon {t0 t1 : Nat} {al : Nat → Bool} {ff : Nat → Int} {fo : Nat → Int → Int} {b : Bool} {cs : List Nat} {Q : Int32 → sT → Prop} {s : sT} (hne : t1 ≠ t0 + 2) (F : fac s t1 al ff fo) (hN : rI s t0 2 = nI cs.length) (hN2 : cs.length ≤ 1600) (hs : ∀ k (h : k < cs.length), rI s (t0 + 1) k = nI (trc cs[k])) (ht : tyL al cs [] = some [b]) (h : ∀ (x : Int) (r : Int32) g, ev ff fo cs [] = [x] → tv [b] [x] → r.toInt = x → Q r (wC s (t0 + 2) g)) : c2_reckon t0 t1 Q s := by
  refine e_c2_reckon ?_
  rw [← wC_self s (t0 + 2)]
  refine w_reckon_4 hne F hN hN2 cs 0 [] [] _ (Nat.zero_add _) (fun k hk => by rw [Nat.zero_add]; exact hs k hk) ht (by decide) trivial trivial (fun g h1 h2 => ?_)
  have hlen := tv_len h1
  match hE : ev ff fo cs [], hlen, h1, h2 with
  | [x], _, h1, h2 => exact ⟨by simp, h x _ g hE h1 h2.1⟩
