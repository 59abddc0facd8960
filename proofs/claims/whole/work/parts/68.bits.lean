def pcH : Nat → Nat → Nat
  | 0, _ => 0
  | n + 1, x => x % 2 + pcH n (x / 2)
theorem and_split (a b k : Nat) : a &&& b = 2 ^ k * ((a / 2 ^ k) &&& (b / 2 ^ k)) + ((a % 2 ^ k) &&& (b % 2 ^ k)) := by
  rw [← Nat.and_mod_two_pow, ← Nat.shiftRight_eq_div_pow, ← Nat.shiftRight_eq_div_pow, ← Nat.shiftRight_and_distrib, Nat.shiftRight_eq_div_pow]
  exact (Nat.div_add_mod _ _).symm
theorem and_2 (a b : Nat) : (a &&& b) / 2 = (a / 2) &&& (b / 2) ∧ (a &&& b) % 2 = (a % 2) &&& (b % 2) := by
  refine ⟨?_, ?_⟩
  · have h := Nat.shiftRight_and_distrib (a := a) (b := b) (i := 1)
    rw [Nat.shiftRight_eq_div_pow, Nat.shiftRight_eq_div_pow, Nat.shiftRight_eq_div_pow] at h
    exact h
  · exact Nat.and_mod_two_pow (a := a) (b := b) (n := 1)
theorem pcH_le : ∀ n x, pcH n x ≤ n
  | 0, _ => Nat.le_refl _
  | n + 1, x => by
    have := pcH_le n (x / 2)
    have := Nat.mod_lt x (show 0 < 2 by decide)
    unfold pcH
    omega
theorem pcH_0 : ∀ n, pcH n 0 = 0
  | 0 => rfl
  | n + 1 => by
    unfold pcH
    rw [Nat.zero_div, pcH_0 n]
theorem pcH_clear : ∀ n x, 0 < x → x < 2 ^ n → pcH n (x &&& (x - 1)) + 1 = pcH n x
  | 0, x, h1, h2 => by rw [Nat.pow_zero] at h2; omega
  | n + 1, x, h1, h2 => by
    obtain ⟨e1, e2⟩ := and_2 x (x - 1)
    unfold pcH
    rw [e1, e2]
    rcases Nat.mod_two_eq_zero_or_one x with q | q
    · have d : (x - 1) / 2 = x / 2 - 1 := by omega
      have := pcH_clear n (x / 2) (by omega) (by rw [Nat.pow_succ] at h2; omega)
      rw [d, q, Nat.zero_and]
      omega
    · have d : (x - 1) / 2 = x / 2 := by omega
      have m : (x - 1) % 2 = 0 := by omega
      rw [d, m, Nat.and_self, Nat.and_zero, q]
      omega
def isP (x m : Nat) : Prop := pcH 24 x = m
theorem isP_0 {x : Nat} (hx : x < 2 ^ 24) (h : isP x 0) : x = 0 := by
  unfold isP at h
  rcases Nat.eq_zero_or_pos x with q | q
  · exact q
  · have := pcH_clear 24 x q hx
    omega
theorem isP_s {x m : Nat} (hx : x < 2 ^ 24) (h : isP x (m + 1)) : 0 < x ∧ isP (x &&& (x - 1)) m := by
  unfold isP at *
  rcases Nat.eq_zero_or_pos x with q | q
  · rw [q, pcH_0] at h
    omega
  · have := pcH_clear 24 x q hx
    exact ⟨q, by omega⟩
theorem bits_end {c : Nat} {x : Nat} {Q : Int32 → sT → Prop} {s : sT} (hx : x = 0) (h : Q (nI c) s) : c12_bits_4 (nI c) (nI x) Q s :=
  e_c12_bits_4 (br_t (by rw [hx]; rfl) h)
theorem bits_step {c : Nat} {x : Nat} {Q : Int32 → sT → Prop} {s : sT} (hx0 : 0 < x) (hx : x < 16777216) (h : c12_bits_4 (nI (c + 1)) (nI (x &&& (x - 1))) Q s) : c12_bits_4 (nI c) (nI x) Q s := by
  refine e_c12_bits_4 (br_f (nI_ne0 hx0 (by omega)) (fun y hy => ?_))
  rw [show (1 : Int32) = nI 1 from rfl, pk_sub hx0, fa_and] at hy
  rw [hy, nI_1]
  exact h
theorem w_bits_4 {Q : Int32 → sT → Prop} {s : sT} (n : Nat) (h : Q (nI n) s) : ∀ m c x, isP x m → x < 2 ^ 24 → c + m = n → c12_bits_4 (nI c) (nI x) Q s := by
  intro m
  induction m with
  | zero =>
    intro c x e hx hc
    have hc2 : c = n := hc
    rw [hc2]
    exact bits_end (isP_0 hx e) h
  | succ m ih =>
    intro c x e hx hc
    obtain ⟨hx0, e2⟩ := isP_s hx e
    have hle : x &&& (x - 1) ≤ x := Nat.and_le_left
    exact bits_step hx0 hx (ih (c + 1) _ e2 (Nat.lt_of_le_of_lt hle hx) (by omega))
theorem w_bits {x : Nat} {Q : Int32 → sT → Prop} {s : sT} (hx : x < 2 ^ 24) (h : Q (nI (pcH 24 x)) s) : c12_bits (nI x) Q s := by
  have e : isP x (pcH 24 x) := Eq.refl (pcH 24 x)
  generalize pcH 24 x = n at h e
  exact e_c12_bits (w_bits_4 n h n 0 x e hx (Nat.zero_add n))
-- the class counts them otherwise: byte by byte
def f1 (x : Nat) : Nat := x - ((x / 2) &&& 1431655765)
def f2 (x : Nat) : Nat := (x &&& 858993459) + ((x / 4) &&& 858993459)
def f3 (x : Nat) : Nat := (x + x / 16) &&& 252645135
theorem byte_and (a b m n : Nat) (ha : a < 256) (hm : m < 256) : (a + 256 * b) &&& (m + 256 * n) = (a &&& m) + 256 * (b &&& n) := by
  have h := and_split (a + 256 * b) (m + 256 * n) 8
  rw [show (2 ^ 8 : Nat) = 256 from rfl] at h
  rw [show (a + 256 * b) / 256 = b by omega, show (m + 256 * n) / 256 = n by omega, show (a + 256 * b) % 256 = a by omega, show (m + 256 * n) % 256 = m by omega] at h
  omega
theorem t1 : ∀ c, c < 2 → ∀ b, b < 256 → (b / 2 + 128 * c) &&& 85 = (b / 2) &&& 85 ∧ (b / 2) &&& 85 ≤ b := by decide +kernel
theorem t2 : ∀ c, c < 4 → ∀ b, b < 256 → (b / 4 + 64 * c) &&& 51 = (b / 4) &&& 51 := by decide +kernel
theorem t3 : ∀ b, b < 256 → (((b - ((b / 2) &&& 85)) &&& 51) + (((b - ((b / 2) &&& 85)) / 4) &&& 51)) % 16 ≤ 4 ∧ (((b - ((b / 2) &&& 85)) &&& 51) + (((b - ((b / 2) &&& 85)) / 4) &&& 51)) < 256 ∧ ((((b - ((b / 2) &&& 85)) &&& 51) + (((b - ((b / 2) &&& 85)) / 4) &&& 51)) + (((b - ((b / 2) &&& 85)) &&& 51) + (((b - ((b / 2) &&& 85)) / 4) &&& 51)) / 16) &&& 15 = pcH 8 b ∧ (((b - ((b / 2) &&& 85)) &&& 51) + (((b - ((b / 2) &&& 85)) / 4) &&& 51)) / 16 ≤ 4 := by decide +kernel
theorem and_lt256 {a m : Nat} (hm : m < 256) : a &&& m < 256 := Nat.lt_of_le_of_lt Nat.and_le_right hm
def g1b (b : Nat) : Nat := b - ((b / 2) &&& 85)
def g2b (b : Nat) : Nat := (g1b b &&& 51) + ((g1b b / 4) &&& 51)
theorem f1_b {a b c : Nat} (ha : a < 256) (hb : b < 256) (hc : c < 256) : f1 (a + 256 * (b + 256 * c)) = g1b a + 256 * (g1b b + 256 * g1b c) := by
  have hd : (a + 256 * (b + 256 * c)) / 2 = (a / 2 + 128 * (b % 2)) + 256 * ((b / 2 + 128 * (c % 2)) + 256 * (c / 2)) := by omega
  have a2 := (t1 (b % 2) (by omega) a ha)
  have b2 := (t1 (c % 2) (by omega) b hb)
  have c2 := (t1 0 (by omega) c hc)
  unfold f1 g1b
  rw [hd, show (1431655765 : Nat) = 85 + 256 * (85 + 256 * 21845) from rfl, byte_and _ _ _ _ (by omega) (by decide), byte_and _ _ _ _ (by omega) (by decide), a2.1, b2.1]
  have e : (c / 2) &&& 21845 = (c / 2) &&& 85 := by
    have := byte_and (c / 2) 0 85 85 (by omega) (by decide)
    rw [Nat.mul_zero, Nat.add_zero, Nat.zero_and, Nat.mul_zero, Nat.add_zero] at this
    exact this
  rw [e]
  have h1 := a2.2
  have h2 := b2.2
  have h3 := c2.2
  omega
theorem g1b_lt {b : Nat} (h : b < 256) : g1b b < 256 := by unfold g1b; omega
theorem f2_b {a b c : Nat} (ha : a < 256) (hb : b < 256) (hc : c < 256) : f2 (a + 256 * (b + 256 * c)) = ((a &&& 51) + ((a / 4) &&& 51)) + 256 * (((b &&& 51) + ((b / 4) &&& 51)) + 256 * ((c &&& 51) + ((c / 4) &&& 51))) := by
  have hd : (a + 256 * (b + 256 * c)) / 4 = (a / 4 + 64 * (b % 4)) + 256 * ((b / 4 + 64 * (c % 4)) + 256 * (c / 4)) := by omega
  have a2 := (t2 (b % 4) (by omega) a ha)
  have b2 := (t2 (c % 4) (by omega) b hb)
  have e : ∀ x, x < 256 → x &&& 13107 = x &&& 51 := fun x hx => by
    have := byte_and x 0 51 51 hx (by decide)
    rw [Nat.mul_zero, Nat.add_zero, Nat.zero_and, Nat.mul_zero, Nat.add_zero] at this
    exact this
  unfold f2
  rw [hd, show (858993459 : Nat) = 51 + 256 * (51 + 256 * 13107) from rfl, byte_and _ _ _ _ ha (by decide), byte_and _ _ _ _ hb (by decide), byte_and _ _ _ _ (by omega) (by decide), byte_and _ _ _ _ (by omega) (by decide), a2, b2, e _ hc, e _ (by omega)]
  omega
theorem f3_b {a b c : Nat} (ha : a / 16 ≤ 4) (ha2 : a % 16 ≤ 4) (hb : b / 16 ≤ 4) (hb2 : b % 16 ≤ 4) (hc : c / 16 ≤ 4) (hc2 : c % 16 ≤ 4) : f3 (a + 256 * (b + 256 * c)) = ((a + a / 16) &&& 15) + 256 * (((b + b / 16) &&& 15) + 256 * ((c + c / 16) &&& 15)) := by
  have hd : (a + 256 * (b + 256 * c)) + (a + 256 * (b + 256 * c)) / 16 = (a + a / 16 + 16 * (b % 16)) + 256 * ((b + b / 16 + 16 * (c % 16)) + 256 * (c + c / 16)) := by omega
  have m15 : ∀ x y, x % 16 = y % 16 → x &&& 15 = y &&& 15 := fun x y h => by
    rw [show (15 : Nat) = 2 ^ 4 - 1 from rfl, Nat.and_two_pow_sub_one_eq_mod, Nat.and_two_pow_sub_one_eq_mod]
    exact h
  have e : ∀ x, x < 256 → x &&& 3855 = x &&& 15 := fun x hx => by
    have := byte_and x 0 15 15 hx (by decide)
    rw [Nat.mul_zero, Nat.add_zero, Nat.zero_and, Nat.mul_zero, Nat.add_zero] at this
    exact this
  unfold f3
  rw [hd, show (252645135 : Nat) = 15 + 256 * (15 + 256 * 3855) from rfl, byte_and _ _ _ _ (by omega) (by decide), byte_and _ _ _ _ (by omega) (by decide), e _ (by omega), m15 (a + a / 16 + 16 * (b % 16)) (a + a / 16) (by omega), m15 (b + b / 16 + 16 * (c % 16)) (b + b / 16) (by omega)]
theorem pcH_k (n : Nat) : ∀ k x, pcH (n + k) x = pcH k (x % 2 ^ k) + pcH n (x / 2 ^ k)
  | 0, x => by
    rw [Nat.pow_zero, Nat.div_one, Nat.add_zero]
    show _ = 0 + pcH n x
    omega
  | k + 1, x => by
    have h := pcH_k n k (x / 2)
    have e1 : pcH (n + (k + 1)) x = x % 2 + pcH (n + k) (x / 2) := rfl
    have e2 : pcH (k + 1) (x % 2 ^ (k + 1)) = x % 2 ^ (k + 1) % 2 + pcH k (x % 2 ^ (k + 1) / 2) := rfl
    have e3 : x % 2 ^ (k + 1) = x % 2 + 2 * (x / 2 % 2 ^ k) := by
      rw [Nat.pow_succ, Nat.mul_comm, Nat.mod_mul]
    have e4 : x / 2 ^ (k + 1) = x / 2 / 2 ^ k := by rw [Nat.div_div_eq_div_mul, Nat.pow_succ, Nat.mul_comm]
    have e5 : (x % 2 + 2 * (x / 2 % 2 ^ k)) % 2 = x % 2 := by omega
    have e6 : (x % 2 + 2 * (x / 2 % 2 ^ k)) / 2 = x / 2 % 2 ^ k := by omega
    rw [e1, e2, e3, e4, e5, e6, h]
    omega
theorem nI_subM {a b : Nat} (h : b ≤ a) : nI a - nI b = nI (a - b) := pk_sub h
theorem fin_sum {A B C : Nat} (hA : A ≤ 8) (hB : B ≤ 8) (hC : C ≤ 8) : (A + 256 * (B + 256 * C) + (A + 256 * (B + 256 * C)) / 256 + (A + 256 * (B + 256 * C) + (A + 256 * (B + 256 * C)) / 256) / 65536) % 64 = A + (B + C) := by
  have h1 : (A + 256 * (B + 256 * C)) / 256 = B + 256 * C := by omega
  rw [h1]
  have h2 : (A + 256 * (B + 256 * C) + (B + 256 * C)) / 65536 = C := by omega
  rw [h2]
  omega
theorem swar24 {x : Nat} (hx : x < 2 ^ 24) : swar (nI x) = nI (pcH 24 x) := by
  have ha : x % 256 < 256 := Nat.mod_lt _ (by decide)
  have hb : x / 256 % 256 < 256 := Nat.mod_lt _ (by decide)
  have hc : x / 65536 < 256 := by omega
  have ex : x = x % 256 + 256 * (x / 256 % 256 + 256 * (x / 65536)) := by omega
  have p : pcH 24 x = pcH 8 (x % 256) + (pcH 8 (x / 256 % 256) + pcH 8 (x / 65536)) := by
    have h1 : pcH 24 x = pcH 8 (x % 256) + pcH 16 (x / 256) := pcH_k 16 8 x
    have h2 : pcH 16 (x / 256) = pcH 8 (x / 256 % 256) + pcH 8 (x / 256 / 256) := pcH_k 8 8 (x / 256)
    rw [h1, h2, show x / 256 / 256 = x / 65536 by omega]
  obtain ⟨a1, a2, a3, a4⟩ := t3 (x % 256) ha
  obtain ⟨b1, b2, b3, b4⟩ := t3 (x / 256 % 256) hb
  obtain ⟨c1, c2, c3, c4⟩ := t3 (x / 65536) hc
  have q1 : f1 x = g1b (x % 256) + 256 * (g1b (x / 256 % 256) + 256 * g1b (x / 65536)) := by
    have := f1_b ha hb hc
    rw [← ex] at this
    exact this
  have q2 : f2 (f1 x) = g2b (x % 256) + 256 * (g2b (x / 256 % 256) + 256 * g2b (x / 65536)) := by
    rw [q1]
    exact f2_b (g1b_lt ha) (g1b_lt hb) (g1b_lt hc)
  have q3 : f3 (f2 (f1 x)) = pcH 8 (x % 256) + 256 * (pcH 8 (x / 256 % 256) + 256 * pcH 8 (x / 65536)) := by
    rw [q2]
    have e3 := f3_b a4 a1 b4 b1 c4 c1
    rw [a3, b3, c3] at e3
    exact e3
  have l1 := pcH_le 8 (x % 256)
  have l2 := pcH_le 8 (x / 256 % 256)
  have l3 := pcH_le 8 (x / 65536)
  have u1 : ∀ n, n < 2 ^ 32 → (Int32.toUInt32 (nI n) >>> (Int32.toUInt32 (1 : Int32) &&& Int32.toUInt32 31)).toInt32 = nI (n / 2) := fun n hn => pk_ushrN hn 1 1 (by decide)
  have u2 : ∀ n, n < 2 ^ 32 → (Int32.toUInt32 (nI n) >>> (Int32.toUInt32 (2 : Int32) &&& Int32.toUInt32 31)).toInt32 = nI (n / 4) := fun n hn => pk_ushrN hn 2 2 (by decide)
  have u4 : ∀ n, n < 2 ^ 32 → (Int32.toUInt32 (nI n) >>> (Int32.toUInt32 (4 : Int32) &&& Int32.toUInt32 31)).toInt32 = nI (n / 16) := fun n hn => pk_ushrN hn 4 4 (by decide)
  have u8 : ∀ n, n < 2 ^ 32 → (Int32.toUInt32 (nI n) >>> (Int32.toUInt32 (8 : Int32) &&& Int32.toUInt32 31)).toInt32 = nI (n / 256) := fun n hn => pk_ushrN hn 8 8 (by decide)
  have u16 : ∀ n, n < 2 ^ 32 → (Int32.toUInt32 (nI n) >>> (Int32.toUInt32 (16 : Int32) &&& Int32.toUInt32 31)).toInt32 = nI (n / 65536) := fun n hn => pk_ushrN hn 16 16 (by decide)
  have h2 : x / 2 &&& 1431655765 ≤ x := Nat.le_trans Nat.and_le_left (Nat.div_le_self _ _)
  have f1l : f1 x ≤ x := Nat.sub_le _ _
  have f2l : f2 (f1 x) ≤ 858993459 + 858993459 := Nat.add_le_add Nat.and_le_right Nat.and_le_right
  unfold swar
  dsimp only
  have s1 : nI x - ((Int32.toUInt32 (nI x) >>> (Int32.toUInt32 (1 : Int32) &&& Int32.toUInt32 31)).toInt32 &&& (1431655765 : Int32)) = nI (f1 x) := by
    rw [u1 _ (by omega), show (1431655765 : Int32) = nI 1431655765 from rfl, fa_and, pk_sub h2]
    rfl
  have s2 : (nI (f1 x) &&& (858993459 : Int32)) + ((Int32.toUInt32 (nI (f1 x)) >>> (Int32.toUInt32 (2 : Int32) &&& Int32.toUInt32 31)).toInt32 &&& (858993459 : Int32)) = nI (f2 (f1 x)) := by
    rw [u2 _ (by omega), show (858993459 : Int32) = nI 858993459 from rfl, fa_and, fa_and, nI_add]
    rfl
  have s3 : (nI (f2 (f1 x)) + (Int32.toUInt32 (nI (f2 (f1 x))) >>> (Int32.toUInt32 (4 : Int32) &&& Int32.toUInt32 31)).toInt32) &&& (252645135 : Int32) = nI (f3 (f2 (f1 x))) := by
    rw [u4 _ (by omega), show (252645135 : Int32) = nI 252645135 from rfl, nI_add, fa_and]
    rfl
  rw [s1, s2, s3, u8 _ (by omega), nI_add, u16 _ (by omega), nI_add, show (63 : Int32) = nI (2 ^ 6 - 1) from rfl, fa_mask, p, q3, show (2 ^ 6 : Nat) = 64 from rfl]
  exact congrArg nI (fin_sum l1 l2 l3)
theorem w_bitC {x : Nat} {Q : Int32 → sT → Prop} {s : sT} (hx : x < 2 ^ 24) (h : Q (nI (pcH 24 x)) s) : cj6_bitCount_0f7a4 (nI x) Q s := w_swar (by rw [swar24 hx]; exact h)
