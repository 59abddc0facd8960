-- reading behind writing
theorem rI_wI (s : sT) (a j : Nat) (v : Int32) (b k : Nat) : rI (wI s a j v) b k = if b = a ∧ k = j then v else rI s b k := by
  show up1 s.1 a (up1 (s.1 a) j v) b k = if b = a ∧ k = j then v else s.1 b k
  unfold up1
  by_cases h : b = a
  · subst h
    by_cases h2 : k = j
    · simp [h2]
    · simp [h2]
  · simp [h]
theorem rJ_wJ (s : sT) (a j : Nat) (v : Int64) (b k : Nat) : rJ (wJ s a j v) b k = if b = a ∧ k = j then v else rJ s b k := by
  show up1 s.2.1 a (up1 (s.2.1 a) j v) b k = if b = a ∧ k = j then v else s.2.1 b k
  unfold up1
  by_cases h : b = a
  · subst h
    by_cases h2 : k = j
    · simp [h2]
    · simp [h2]
  · simp [h]
theorem rI_wC (s : sT) (a : Nat) (f : Nat → Int32) (b k : Nat) : rI (wC s a f) b k = if b = a then f k else rI s b k := by
  show up1 s.1 a f b k = if b = a then f k else s.1 b k
  unfold up1
  by_cases h : b = a
  · simp [h]
  · simp [h]
theorem rI_wJ (s : sT) (a j : Nat) (v : Int64) (b k : Nat) : rI (wJ s a j v) b k = rI s b k := rfl
theorem rJ_wI (s : sT) (a j : Nat) (v : Int32) (b k : Nat) : rJ (wI s a j v) b k = rJ s b k := rfl
theorem rJ_wC (s : sT) (a : Nat) (f : Nat → Int32) (b k : Nat) : rJ (wC s a f) b k = rJ s b k := rfl
theorem rI_wO (s : sT) (o : Option Nat) (b k : Nat) : rI (wO s o) b k = rI s b k := rfl
theorem rJ_wO (s : sT) (o : Option Nat) (b k : Nat) : rJ (wO s o) b k = rJ s b k := rfl
theorem o_wI (s : sT) (a j : Nat) (v : Int32) : (wI s a j v).2.2 = s.2.2 := rfl
theorem o_wJ (s : sT) (a j : Nat) (v : Int64) : (wJ s a j v).2.2 = s.2.2 := rfl
theorem o_wC (s : sT) (a : Nat) (f : Nat → Int32) : (wC s a f).2.2 = s.2.2 := rfl
theorem o_wO (s : sT) (o : Option Nat) : (wO s o).2.2 = o := rfl
theorem rA_r (s : sT) (a k : Nat) : rA s a k = rI s a k := rfl
theorem st_ext {s t : sT} (h1 : ∀ a j, rI s a j = rI t a j) (h2 : ∀ a j, rJ s a j = rJ t a j) (h3 : s.2.2 = t.2.2) : s = t := by
  obtain ⟨a, b, c⟩ := s
  obtain ⟨a', b', c'⟩ := t
  have e1 : a = a' := funext fun x => funext fun y => h1 x y
  have e2 : b = b' := funext fun x => funext fun y => h2 x y
  have e3 : c = c' := h3
  rw [e1, e2, e3]
theorem cpy_r {f g : Nat → Int32} {n k : Nat} : va_cpy f g 0 0 n k = if k < n then f k else g k := by
  by_cases h : k < n
  · rw [if_pos h, pk_cpy_in (by omega) (by omega)]
    congr 1
    omega
  · rw [if_neg h, pk_cpy_out (by omega)]
-- what stays
def Fr (X : Nat → Nat → Bool) (s t : sT) : Prop := (∀ a j, X a j = false → rI t a j = rI s a j) ∧ (∀ a j, X a j = false → rJ t a j = rJ s a j) ∧ t.2.2 = s.2.2
theorem fr_rf {X : Nat → Nat → Bool} {s : sT} : Fr X s s := ⟨fun _ _ _ => rfl, fun _ _ _ => rfl, rfl⟩
theorem fr_tr {X : Nat → Nat → Bool} {s t u : sT} (h : Fr X s t) (k : Fr X t u) : Fr X s u := ⟨fun a j q => (k.1 a j q).trans (h.1 a j q), fun a j q => (k.2.1 a j q).trans (h.2.1 a j q), k.2.2.trans h.2.2⟩
theorem fr_mo {X Y : Nat → Nat → Bool} {s t : sT} (h : Fr X s t) (hx : ∀ a j, X a j = true → Y a j = true) : Fr Y s t := by
  have q : ∀ a j, Y a j = false → X a j = false := fun a j e => by
    cases hb : X a j with
    | false => rfl
    | true => rw [hx a j hb] at e; cases e
  exact ⟨fun a j e => h.1 a j (q a j e), fun a j e => h.2.1 a j (q a j e), h.2.2⟩
theorem fr_wI {X : Nat → Nat → Bool} {s t : sT} {a j : Nat} {v : Int32} (h : Fr X s t) (hx : X a j = true) : Fr X s (wI t a j v) := by
  refine ⟨fun b k e => ?_, fun b k e => h.2.1 b k e, h.2.2⟩
  rw [rI_wI]
  by_cases q : b = a ∧ k = j
  · obtain ⟨rfl, rfl⟩ := q; rw [hx] at e; cases e
  · rw [if_neg q]; exact h.1 b k e
theorem fr_wJ {X : Nat → Nat → Bool} {s t : sT} {a j : Nat} {v : Int64} (h : Fr X s t) (hx : X a j = true) : Fr X s (wJ t a j v) := by
  refine ⟨fun b k e => h.1 b k e, fun b k e => ?_, h.2.2⟩
  rw [rJ_wJ]
  by_cases q : b = a ∧ k = j
  · obtain ⟨rfl, rfl⟩ := q; rw [hx] at e; cases e
  · rw [if_neg q]; exact h.2.1 b k e
theorem fr_wC {X : Nat → Nat → Bool} {s t : sT} {a : Nat} {f : Nat → Int32} (h : Fr X s t) (hx : ∀ j, X a j = true) : Fr X s (wC t a f) := by
  refine ⟨fun b k e => ?_, fun b k e => h.2.1 b k e, h.2.2⟩
  rw [rI_wC]
  by_cases q : b = a
  · subst q; rw [hx] at e; cases e
  · rw [if_neg q]; exact h.1 b k e
-- bits
theorem t_lt {n k : Nat} (h : n < 2 ^ k) {i : Nat} (hi : k ≤ i) : n.testBit i = false := Nat.testBit_lt_two_pow (Nat.lt_of_lt_of_le h (Nat.pow_le_pow_right (by decide) hi))
theorem lt_t {n k : Nat} (h : ∀ i, k ≤ i → n.testBit i = false) : n < 2 ^ k := Nat.lt_pow_two_of_testBit n h
theorem sx31 : ∀ k, k < 32 → ((nI k &&& 31).toBitVec.smod 32).toNat = k := by decide +kernel
theorem one_shl {k : Nat} (h : k < 31) : (1 : Int32) <<< (nI k &&& 31) = nI (2 ^ k) := by
  have h2 : 2 ^ k < 2 ^ 31 := Nat.pow_lt_pow_right (by decide) h
  have := pk_shlN (n := 1) (nI k &&& 31) k (sx31 k (by omega)) (by omega)
  rw [Nat.one_mul] at this
  exact this
theorem bit_at {x k : Nat} (hx : x < 2 ^ 31) (h : k < 31) : (nI x >>> (nI k &&& 31)) &&& (1 : Int32) = nI (if x.testBit k then 1 else 0) := by
  rw [pk_shrN hx (nI k &&& 31) k (sx31 k (by omega)), show (1 : Int32) = nI 1 from rfl, fa_and, Nat.and_one_is_mod, Nat.testBit_eq_decide_div_mod_eq]
  have : x / 2 ^ k % 2 < 2 := Nat.mod_lt _ (by decide)
  by_cases q : x / 2 ^ k % 2 = 1
  · simp [q]
  · rw [show x / 2 ^ k % 2 = 0 by omega]; simp
theorem bit_1 {x k : Nat} (hx : x < 2 ^ 31) (h : k < 31) : ((nI x >>> (nI k &&& 31)) &&& (1 : Int32)) = (1 : Int32) ↔ x.testBit k = true := by
  rw [bit_at hx h]
  cases x.testBit k <;> decide
theorem bit_0 {x k : Nat} (hx : x < 2 ^ 31) (h : k < 31) : ((nI x >>> (nI k &&& 31)) &&& (1 : Int32)) = 0 ↔ x.testBit k = false := by
  rw [bit_at hx h]
  cases x.testBit k <;> decide
theorem sub_0 {a b : Nat} (ha : a < 2 ^ 31) : (nI a &&& (nI b ^^^ (-1 : Int32))) = 0 ↔ ∀ i, a.testBit i = true → b.testBit i = true := by
  have e : (nI a &&& (nI b ^^^ (-1 : Int32))).toBitVec = BitVec.ofNat 32 a &&& (BitVec.ofNat 32 b ^^^ BitVec.allOnes 32) := rfl
  constructor
  · intro h i hi
    have hi31 : i < 31 := by
      rcases Nat.lt_or_ge i 31 with q | q
      · exact q
      · rw [t_lt ha q] at hi; cases hi
    have h2 : (nI a &&& (nI b ^^^ (-1 : Int32))).toBitVec.getLsbD i = false := by rw [h]; exact BitVec.getLsbD_zero
    rw [e, BitVec.getLsbD_and, BitVec.getLsbD_xor, BitVec.getLsbD_ofNat, BitVec.getLsbD_ofNat, BitVec.getLsbD_allOnes, hi] at h2
    simp [show i < 32 by omega] at h2
    exact h2
  · intro h
    apply Int32.toBitVec_inj.1
    rw [e]
    apply BitVec.eq_of_getLsbD_eq
    intro i hi
    rw [BitVec.getLsbD_and, BitVec.getLsbD_xor, BitVec.getLsbD_ofNat, BitVec.getLsbD_ofNat, BitVec.getLsbD_allOnes]
    simp [hi]
    intro q
    exact h i q
/-- the bits below n at which p holds -/
def mB (p : Nat → Bool) : Nat → Nat
  | 0 => 0
  | n + 1 => mB p n ||| (if p n then 2 ^ n else 0)
theorem mB_t (p : Nat → Bool) (i : Nat) : ∀ n, (mB p n).testBit i = (decide (i < n) && p i)
  | 0 => by simp [mB]
  | n + 1 => by
    rw [mB, Nat.testBit_or, mB_t p i n]
    by_cases h : i = n
    · subst h
      cases hp : p i <;> simp [hp]
    · have : (if p n = true then 2 ^ n else 0).testBit i = false := by
        split
        · rw [Nat.testBit_two_pow]; simp; omega
        · simp
      rw [this, Bool.or_false]
      congr 1
      simp
      omega
theorem mB_lt (p : Nat → Bool) (n : Nat) : mB p n < 2 ^ n := lt_t fun i hi => by rw [mB_t]; simp; omega
theorem nI_or (a b : Nat) : nI a ||| nI b = nI (a ||| b) := fa_or a b
theorem wC_self (s : sT) (a : Nat) : wC s a (rA s a) = s := st_ext (fun b k => by
  rw [rI_wC]
  by_cases h : b = a
  · rw [if_pos h, h, rA_r]
  · rw [if_neg h]) (fun _ _ => rfl) rfl
