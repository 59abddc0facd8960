-- bits of up to 31
def isPL (x m : Nat) : Prop := pcH 31 x = m
theorem isPL_0 {x : Nat} (hx : x < 2 ^ 31) (h : isPL x 0) : x = 0 := by
  unfold isPL at h
  rcases Nat.eq_zero_or_pos x with q | q
  · exact q
  · have := pcH_clear 31 x q hx
    omega
theorem isPL_s {x m : Nat} (hx : x < 2 ^ 31) (h : isPL x (m + 1)) : 0 < x ∧ isPL (x &&& (x - 1)) m := by
  unfold isPL at *
  rcases Nat.eq_zero_or_pos x with q | q
  · rw [q, pcH_0] at h
    omega
  · have := pcH_clear 31 x q hx
    exact ⟨q, by omega⟩
theorem bits_stepL {c : Nat} {x : Nat} {Q : Int32 → sT → Prop} {s : sT} (hx0 : 0 < x) (hx : x < 2147483648) (h : c12_bits_4 (nI (c + 1)) (nI (x &&& (x - 1))) Q s) : c12_bits_4 (nI c) (nI x) Q s := by
  refine e_c12_bits_4 (br_f (nI_ne0 hx0 (by omega)) (fun y hy => ?_))
  rw [show (1 : Int32) = nI 1 from rfl, pk_sub hx0, fa_and] at hy
  rw [hy, nI_1]
  exact h
theorem w_bits_4L {Q : Int32 → sT → Prop} {s : sT} (n : Nat) (h : Q (nI n) s) : ∀ m c x, isPL x m → x < 2 ^ 31 → c + m = n → c12_bits_4 (nI c) (nI x) Q s := by
  intro m
  induction m with
  | zero =>
    intro c x e hx hc
    have hc2 : c = n := hc
    rw [hc2]
    exact bits_end (isPL_0 hx e) h
  | succ m ih =>
    intro c x e hx hc
    obtain ⟨hx0, e2⟩ := isPL_s hx e
    have hle : x &&& (x - 1) ≤ x := Nat.and_le_left
    exact bits_stepL hx0 hx (ih (c + 1) _ e2 (Nat.lt_of_le_of_lt hle hx) (by omega))
theorem w_bitsL {x : Nat} {Q : Int32 → sT → Prop} {s : sT} (hx : x < 2 ^ 31) (h : Q (nI (pcH 31 x)) s) : c12_bits (nI x) Q s := by
  have e : isPL x (pcH 31 x) := Eq.refl (pcH 31 x)
  generalize pcH 31 x = n at h e
  exact e_c12_bits (w_bits_4L n h n 0 x e hx (Nat.zero_add n))
theorem f1_b4 {a b c d : Nat} (ha : a < 256) (hb : b < 256) (hc : c < 256) (hd0 : d < 256) : f1 (a + 256 * (b + 256 * (c + 256 * d))) = g1b a + 256 * (g1b b + 256 * (g1b c + 256 * g1b d)) := by
  have hd : (a + 256 * (b + 256 * (c + 256 * d))) / 2 = (a / 2 + 128 * (b % 2)) + 256 * ((b / 2 + 128 * (c % 2)) + 256 * ((c / 2 + 128 * (d % 2)) + 256 * (d / 2))) := by omega
  have a2 := (t1 (b % 2) (by omega) a ha)
  have b2 := (t1 (c % 2) (by omega) b hb)
  have c2 := (t1 (d % 2) (by omega) c hc)
  have d2 := (t1 0 (by omega) d hd0)
  unfold f1 g1b
  rw [hd, show (1431655765 : Nat) = 85 + 256 * (85 + 256 * (85 + 256 * 85)) from rfl, byte_and _ _ _ _ (by omega) (by decide), byte_and _ _ _ _ (by omega) (by decide), byte_and _ _ _ _ (by omega) (by decide), a2.1, b2.1, c2.1]
  have h1 := a2.2
  have h2 := b2.2
  have h3 := c2.2
  have h4 := d2.2
  omega
theorem f2_b4 {a b c d : Nat} (ha : a < 256) (hb : b < 256) (hc : c < 256) (hd0 : d < 256) : f2 (a + 256 * (b + 256 * (c + 256 * d))) = ((a &&& 51) + ((a / 4) &&& 51)) + 256 * (((b &&& 51) + ((b / 4) &&& 51)) + 256 * (((c &&& 51) + ((c / 4) &&& 51)) + 256 * ((d &&& 51) + ((d / 4) &&& 51)))) := by
  have hd : (a + 256 * (b + 256 * (c + 256 * d))) / 4 = (a / 4 + 64 * (b % 4)) + 256 * ((b / 4 + 64 * (c % 4)) + 256 * ((c / 4 + 64 * (d % 4)) + 256 * (d / 4))) := by omega
  have a2 := (t2 (b % 4) (by omega) a ha)
  have b2 := (t2 (c % 4) (by omega) b hb)
  have c2 := (t2 (d % 4) (by omega) c hc)
  unfold f2
  rw [hd, show (858993459 : Nat) = 51 + 256 * (51 + 256 * (51 + 256 * 51)) from rfl, byte_and _ _ _ _ ha (by decide), byte_and _ _ _ _ hb (by decide), byte_and _ _ _ _ hc (by decide), byte_and _ _ _ _ (by omega) (by decide), byte_and _ _ _ _ (by omega) (by decide), byte_and _ _ _ _ (by omega) (by decide), a2, b2, c2]
  omega
theorem f3_b4 {a b c d : Nat} (ha : a / 16 ≤ 4) (ha2 : a % 16 ≤ 4) (hb : b / 16 ≤ 4) (hb2 : b % 16 ≤ 4) (hc : c / 16 ≤ 4) (hc2 : c % 16 ≤ 4) (hd : d / 16 ≤ 4) (hd2 : d % 16 ≤ 4) : f3 (a + 256 * (b + 256 * (c + 256 * d))) = ((a + a / 16) &&& 15) + 256 * (((b + b / 16) &&& 15) + 256 * (((c + c / 16) &&& 15) + 256 * ((d + d / 16) &&& 15))) := by
  have hd : (a + 256 * (b + 256 * (c + 256 * d))) + (a + 256 * (b + 256 * (c + 256 * d))) / 16 = (a + a / 16 + 16 * (b % 16)) + 256 * ((b + b / 16 + 16 * (c % 16)) + 256 * ((c + c / 16 + 16 * (d % 16)) + 256 * (d + d / 16))) := by omega
  have m15 : ∀ x y, x % 16 = y % 16 → x &&& 15 = y &&& 15 := fun x y h => by
    rw [show (15 : Nat) = 2 ^ 4 - 1 from rfl, Nat.and_two_pow_sub_one_eq_mod, Nat.and_two_pow_sub_one_eq_mod]
    exact h
  unfold f3
  rw [hd, show (252645135 : Nat) = 15 + 256 * (15 + 256 * (15 + 256 * 15)) from rfl, byte_and _ _ _ _ (by omega) (by decide), byte_and _ _ _ _ (by omega) (by decide), byte_and _ _ _ _ (by omega) (by decide), m15 (a + a / 16 + 16 * (b % 16)) (a + a / 16) (by omega), m15 (b + b / 16 + 16 * (c % 16)) (b + b / 16) (by omega), m15 (c + c / 16 + 16 * (d % 16)) (c + c / 16) (by omega)]
theorem fin_sum4 {A B C D : Nat} (hA : A ≤ 8) (hB : B ≤ 8) (hC : C ≤ 8) (hD : D ≤ 8) : (A + 256 * (B + 256 * (C + 256 * D)) + (A + 256 * (B + 256 * (C + 256 * D))) / 256 + (A + 256 * (B + 256 * (C + 256 * D)) + (A + 256 * (B + 256 * (C + 256 * D))) / 256) / 65536) % 64 = A + (B + (C + D)) := by
  have h1 : (A + 256 * (B + 256 * (C + 256 * D))) / 256 = B + 256 * (C + 256 * D) := by omega
  rw [h1]
  have h2 : (A + 256 * (B + 256 * (C + 256 * D)) + (B + 256 * (C + 256 * D))) / 65536 = (C + D) + 256 * D := by omega
  rw [h2]
  omega
theorem pcH_31 {x : Nat} (hx : x < 2 ^ 31) : pcH 32 x = pcH 31 x := by
  have h : pcH 32 x = pcH 31 (x % 2 ^ 31) + pcH 1 (x / 2 ^ 31) := pcH_k 1 31 x
  rw [h, Nat.mod_eq_of_lt hx, Nat.div_eq_of_lt hx, pcH_0, Nat.add_zero]
theorem swar31 {x : Nat} (hx : x < 2 ^ 31) : swar (nI x) = nI (pcH 31 x) := by
  have ha : x % 256 < 256 := Nat.mod_lt _ (by decide)
  have hb : x / 256 % 256 < 256 := Nat.mod_lt _ (by decide)
  have hc : x / 65536 % 256 < 256 := Nat.mod_lt _ (by decide)
  have hd : x / 16777216 < 256 := by omega
  have ex : x = x % 256 + 256 * (x / 256 % 256 + 256 * (x / 65536 % 256 + 256 * (x / 16777216))) := by omega
  have p : pcH 31 x = pcH 8 (x % 256) + (pcH 8 (x / 256 % 256) + (pcH 8 (x / 65536 % 256) + pcH 8 (x / 16777216))) := by
    have h1 : pcH 32 x = pcH 8 (x % 256) + pcH 24 (x / 256) := pcH_k 24 8 x
    have h2 : pcH 24 (x / 256) = pcH 8 (x / 256 % 256) + pcH 16 (x / 256 / 256) := pcH_k 16 8 (x / 256)
    have h3 : pcH 16 (x / 256 / 256) = pcH 8 (x / 256 / 256 % 256) + pcH 8 (x / 256 / 256 / 256) := pcH_k 8 8 (x / 256 / 256)
    rw [← pcH_31 hx, h1, h2, h3, show x / 256 / 256 / 256 = x / 16777216 by omega, show x / 256 / 256 = x / 65536 by omega]
  obtain ⟨a1, a2, a3, a4⟩ := t3 (x % 256) ha
  obtain ⟨b1, b2, b3, b4⟩ := t3 (x / 256 % 256) hb
  obtain ⟨c1, c2, c3, c4⟩ := t3 (x / 65536 % 256) hc
  obtain ⟨d1, d2, d3, d4⟩ := t3 (x / 16777216) hd
  have q1 : f1 x = g1b (x % 256) + 256 * (g1b (x / 256 % 256) + 256 * (g1b (x / 65536 % 256) + 256 * g1b (x / 16777216))) := by
    have := f1_b4 ha hb hc hd
    rw [← ex] at this
    exact this
  have q2 : f2 (f1 x) = g2b (x % 256) + 256 * (g2b (x / 256 % 256) + 256 * (g2b (x / 65536 % 256) + 256 * g2b (x / 16777216))) := by
    rw [q1]
    exact f2_b4 (g1b_lt ha) (g1b_lt hb) (g1b_lt hc) (g1b_lt hd)
  have q3 : f3 (f2 (f1 x)) = pcH 8 (x % 256) + 256 * (pcH 8 (x / 256 % 256) + 256 * (pcH 8 (x / 65536 % 256) + 256 * pcH 8 (x / 16777216))) := by
    rw [q2]
    have e3 := f3_b4 a4 a1 b4 b1 c4 c1 d4 d1
    rw [a3, b3, c3, d3] at e3
    exact e3
  have l1 := pcH_le 8 (x % 256)
  have l2 := pcH_le 8 (x / 256 % 256)
  have l3 := pcH_le 8 (x / 65536 % 256)
  have l4 := pcH_le 8 (x / 16777216)
  have u1 : ∀ n, n < 2 ^ 32 → (Int32.toUInt32 (nI n) >>> (Int32.toUInt32 (1 : Int32) &&& Int32.toUInt32 31)).toInt32 = nI (n / 2) := fun n hn => pk_ushrN hn 1 1 (by decide)
  have u2 : ∀ n, n < 2 ^ 32 → (Int32.toUInt32 (nI n) >>> (Int32.toUInt32 (2 : Int32) &&& Int32.toUInt32 31)).toInt32 = nI (n / 4) := fun n hn => pk_ushrN hn 2 2 (by decide)
  have u4 : ∀ n, n < 2 ^ 32 → (Int32.toUInt32 (nI n) >>> (Int32.toUInt32 (4 : Int32) &&& Int32.toUInt32 31)).toInt32 = nI (n / 16) := fun n hn => pk_ushrN hn 4 4 (by decide)
  have u8 : ∀ n, n < 2 ^ 32 → (Int32.toUInt32 (nI n) >>> (Int32.toUInt32 (8 : Int32) &&& Int32.toUInt32 31)).toInt32 = nI (n / 256) := fun n hn => pk_ushrN hn 8 8 (by decide)
  have u16 : ∀ n, n < 2 ^ 32 → (Int32.toUInt32 (nI n) >>> (Int32.toUInt32 (16 : Int32) &&& Int32.toUInt32 31)).toInt32 = nI (n / 65536) := fun n hn => pk_ushrN hn 16 16 (by decide)
  have h2 : x / 2 &&& 1431655765 ≤ x := Nat.le_trans Nat.and_le_left (Nat.div_le_self _ _)
  have f1l : f1 x ≤ x := Nat.sub_le _ _
  have f2l : f2 (f1 x) ≤ 858993459 + 858993459 := Nat.add_le_add Nat.and_le_right Nat.and_le_right
  unfold swar
  dsimp only
  have s1 : nI x - ((Int32.toUInt32 (nI x) >>> (Int32.toUInt32 (1 : Int32) &&& Int32.toUInt32 31)).toInt32 &&& (1431655765 : Int32)) = nI (f1 x) := by
    rw [u1 _ (by omega), show (1431655765 : Int32) = nI 1431655765 from rfl, fa_and, pk_sub h2]
    rfl
  have s2 : (nI (f1 x) &&& (858993459 : Int32)) + ((Int32.toUInt32 (nI (f1 x)) >>> (Int32.toUInt32 (2 : Int32) &&& Int32.toUInt32 31)).toInt32 &&& (858993459 : Int32)) = nI (f2 (f1 x)) := by
    rw [u2 _ (by omega), show (858993459 : Int32) = nI 858993459 from rfl, fa_and, fa_and, nI_add]
    rfl
  have s3 : (nI (f2 (f1 x)) + (Int32.toUInt32 (nI (f2 (f1 x))) >>> (Int32.toUInt32 (4 : Int32) &&& Int32.toUInt32 31)).toInt32) &&& (252645135 : Int32) = nI (f3 (f2 (f1 x))) := by
    rw [u4 _ (by omega), show (252645135 : Int32) = nI 252645135 from rfl, nI_add, fa_and]
    rfl
  rw [s1, s2, s3, u8 _ (by omega), nI_add, u16 _ (by omega), nI_add, show (63 : Int32) = nI (2 ^ 6 - 1) from rfl, fa_mask, p, q3, show (2 ^ 6 : Nat) = 64 from rfl]
  exact congrArg nI (fin_sum4 l1 l2 l3 l4)
theorem w_bitCL {x : Nat} {Q : Int32 → sT → Prop} {s : sT} (hx : x < 2 ^ 31) (h : Q (nI (pcH 31 x)) s) : cj6_bitCount_0f7a4 (nI x) Q s := w_swar (by rw [swar31 hx]; exact h)
/-- bits, counted by places -/
theorem pcH_ct : ∀ n x, pcH n x = fb_ct (fun i => x.testBit i) n
  | 0, _ => rfl
  | n + 1, x => by
    have h := fb_ct_split (fun i => x.testBit i) 1 n
    rw [Nat.add_comm 1 n] at h
    rw [h]
    unfold pcH
    rw [pcH_ct n (x / 2)]
    have e1 : fb_ct (fun i => x.testBit i) 1 = x % 2 := by
      show 0 + (if x.testBit 0 = true then 1 else 0) = x % 2
      rw [Nat.testBit_zero]
      by_cases q : x % 2 = 1
      · rw [decide_eq_true q, if_pos rfl, q]
      · rw [decide_eq_false q, if_neg (by decide)]
        omega
    rw [e1]
    have e2 : (fun i => (x / 2).testBit i) = (fun k => x.testBit (1 + k)) := funext fun k => by
      rw [Nat.add_comm 1 k, Nat.testBit_succ]
    rw [e2]
theorem and_bit (a b i j : Nat) : ((a / 2 ^ i) &&& (b / 2 ^ j)) % 2 = B01 (a.testBit i && b.testBit j) := by
  rw [(and_2 _ _).2, Nat.testBit_eq_decide_div_mod_eq, Nat.testBit_eq_decide_div_mod_eq]
  have ha : a / 2 ^ i % 2 < 2 := Nat.mod_lt _ (by decide)
  have hb : b / 2 ^ j % 2 < 2 := Nat.mod_lt _ (by decide)
  unfold B01
  generalize a / 2 ^ i % 2 = x at *
  generalize b / 2 ^ j % 2 = y at *
  have hx : x = 0 ∨ x = 1 := by omega
  have hy : y = 0 ∨ y = 1 := by omega
  rcases hx with rfl | rfl <;> rcases hy with rfl | rfl <;> rfl
