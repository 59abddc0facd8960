-- no share has more than 32 writings
def mM : Nat := 65536
def bB : Nat := 33554432
theorem prt_pos {n : Nat} (h1 : 1 ≤ n) (h2 : n ≤ 24) : 0 < prt n := Nat.div_pos (by omega) h1
theorem prt_le (n : Nat) : prt n ≤ 5354228880 := Nat.div_le_self _ _
/-- sets of at most so many of the last k sizes up to 24, by their sum modulo mM -/
def dC : Nat → Nat → Nat → Nat
  | 0, _, r => if r = 0 then 1 else 0
  | _ + 1, 0, r => if r = 0 then 1 else 0
  | k + 1, m + 1, r => dC k (m + 1) r + dC k m ((r + (mM - prt (24 - k) % mM)) % mM)
theorem dC_pos : ∀ k m, 1 ≤ dC k m 0
  | 0, m => by unfold dC; simp
  | k + 1, 0 => by unfold dC; simp
  | k + 1, m + 1 => by
    have := dC_pos k (m + 1)
    unfold dC
    omega
theorem dC_mono : ∀ k m r, dC k m r ≤ dC k (m + 1) r
  | 0, m, r => Nat.le_refl _
  | k + 1, 0, r => by
    have h : dC (k + 1) 1 r = dC k 1 r + dC k 0 ((r + (mM - prt (24 - k) % mM)) % mM) := rfl
    have h0 : dC (k + 1) 0 r = if r = 0 then 1 else 0 := rfl
    rw [h, h0]
    split
    · rename_i q
      subst q
      have := dC_pos k 1
      omega
    · omega
  | k + 1, m + 1, r => by
    have h : dC (k + 1) (m + 1 + 1) r = dC k (m + 1 + 1) r + dC k (m + 1) ((r + (mM - prt (24 - k) % mM)) % mM) := rfl
    have h0 : dC (k + 1) (m + 1) r = dC k (m + 1) r + dC k m ((r + (mM - prt (24 - k) % mM)) % mM) := rfl
    have a := dC_mono k (m + 1) r
    have b := dC_mono k m ((r + (mM - prt (24 - k) % mM)) % mM)
    omega
theorem dC_mono6 {k r : Nat} : ∀ m d, dC k m r ≤ dC k (m + d) r
  | m, 0 => Nat.le_refl _
  | m, d + 1 => Nat.le_trans (dC_mono6 m d) (dC_mono k (m + d) r)
theorem dC_le : ∀ k m r, dC k m r ≤ 2 ^ k
  | 0, m, r => by unfold dC; split <;> simp
  | k + 1, 0, r => by
    have h0 : dC (k + 1) 0 r = if r = 0 then 1 else 0 := rfl
    have := Nat.two_pow_pos (k + 1)
    rw [h0]
    split <;> omega
  | k + 1, m + 1, r => by
    have h0 : dC (k + 1) (m + 1) r = dC k (m + 1) r + dC k m ((r + (mM - prt (24 - k) % mM)) % mM) := rfl
    have a := dC_le k (m + 1) r
    have b := dC_le k m ((r + (mM - prt (24 - k) % mM)) % mM)
    rw [h0, Nat.pow_succ]
    omega
theorem wsL_len {fin : Nat} (hf : fin ≤ 24) : ∀ k m rest set, k ≤ fin → 0 < rest → (wsL fin k m rest set).length ≤ dC (k + (24 - fin)) m (rest % mM)
  | 0, m, rest, set, _, _ => Nat.zero_le _
  | k + 1, m, rest, set, hk, hr => by
    have e1 : k + 1 + (24 - fin) = (k + (24 - fin)) + 1 := by omega
    have e2 : 24 - (k + (24 - fin)) = fin - k := by omega
    have hM : 0 < mM := by decide
    cases m with
    | zero =>
      unfold wsL
      rw [if_pos (by omega)]
      exact Nat.zero_le _
    | succ m =>
      have hd : dC (k + 1 + (24 - fin)) (m + 1) (rest % mM) = dC (k + (24 - fin)) (m + 1) (rest % mM) + dC (k + (24 - fin)) m ((rest % mM + (mM - prt (fin - k) % mM)) % mM) := by
        rw [e1]
        show dC (k + (24 - fin)) (m + 1) (rest % mM) + dC (k + (24 - fin)) m ((rest % mM + (mM - prt (24 - (k + (24 - fin))) % mM)) % mM) = _
        rw [e2]
      have ih := wsL_len hf k (m + 1) rest set (by omega) hr
      rw [hd]
      unfold wsL
      split
      · exact Nat.zero_le _
      split
      · rename_i q
        have e3 : (rest % mM + (mM - prt (fin - k) % mM)) % mM = 0 := by
          rw [q]
          have := Nat.mod_lt rest hM
          rw [show rest % mM + (mM - rest % mM) = mM by omega]
          exact Nat.mod_self _
        have := dC_pos (k + (24 - fin)) m
        rw [e3, List.length_cons]
        omega
      split
      · rename_i q
        have ih2 := wsL_len hf k m (rest - prt (fin - k)) (set ||| 2 ^ (fin - k - 1)) (by omega) (by omega)
        have e3 : (rest % mM + (mM - prt (fin - k) % mM)) % mM = (rest - prt (fin - k)) % mM := by
          have a := Nat.mod_lt (prt (fin - k)) hM
          unfold mM at *
          omega
        rw [e3, List.length_append, Nat.add_sub_cancel]
        omega
      · omega
-- great numbers: places of bB
def sG (f : Nat → Nat) : Nat → Nat
  | 0 => 0
  | n + 1 => sG f n + f n * bB ^ n
theorem sG_cong {f g : Nat → Nat} : ∀ {n : Nat}, (∀ k, k < n → f k = g k) → sG f n = sG g n
  | 0, _ => rfl
  | n + 1, h => by rw [sG, sG, sG_cong (fun k hk => h k (by omega)), h n (by omega)]
theorem sG_lt {f : Nat → Nat} (h : ∀ k, f k < bB) : ∀ n, sG f n < bB ^ n
  | 0 => by
    rw [Nat.pow_zero]
    exact Nat.one_pos
  | n + 1 => by
    have a := sG_lt h n
    have b : f n * bB ^ n ≤ (bB - 1) * bB ^ n := Nat.mul_le_mul_right _ (by have := h n; omega)
    rw [sG, Nat.pow_succ]
    have c : (bB - 1) * bB ^ n + bB ^ n = bB ^ n * bB := by
      rw [Nat.mul_comm (bB ^ n) bB, ← Nat.succ_mul]
      rfl
    omega
theorem sG_split (f : Nat → Nat) (a : Nat) : ∀ b, sG f (a + b) = sG f a + bB ^ a * sG (fun k => f (k + a)) b
  | 0 => by simp [sG]
  | b + 1 => by
    rw [← Nat.add_assoc, sG, sG_split f a b, sG, Nat.mul_add, Nat.add_assoc]
    congr 2
    rw [Nat.pow_add, Nat.add_comm b a]
    rw [Nat.mul_comm, Nat.mul_assoc]
    congr 1
    rw [Nat.mul_comm]
def rot (x p : Nat) : Nat := (x % bB ^ (mM - p)) * bB ^ p + x / bB ^ (mM - p)
theorem rot_sG {f : Nat → Nat} {p : Nat} (h : ∀ k, f k < bB) (hp : p < mM) : rot (sG f mM) p = sG (fun r => f ((r + (mM - p)) % mM)) mM := by
  have hM : mM = (mM - p) + p := by omega
  have e1 : sG f mM = sG f (mM - p) + bB ^ (mM - p) * sG (fun k => f (k + (mM - p))) p := by
    have := sG_split f (mM - p) p
    rw [← hM] at this
    exact this
  have hl := sG_lt h (mM - p)
  have hB : 0 < bB ^ (mM - p) := Nat.pow_pos (by decide)
  have em : sG f mM % bB ^ (mM - p) = sG f (mM - p) := by
    rw [e1, Nat.add_mul_mod_self_left, Nat.mod_eq_of_lt hl]
  have ed : sG f mM / bB ^ (mM - p) = sG (fun k => f (k + (mM - p))) p := by
    rw [e1, Nat.add_mul_div_left _ _ hB, Nat.div_eq_of_lt hl, Nat.zero_add]
  unfold rot
  rw [em, ed]
  have hM2 : mM = p + (mM - p) := by omega
  have e2 : sG (fun r => f ((r + (mM - p)) % mM)) mM = sG (fun r => f ((r + (mM - p)) % mM)) p + bB ^ p * sG (fun k => f ((k + p + (mM - p)) % mM)) (mM - p) := by
    have := sG_split (fun r => f ((r + (mM - p)) % mM)) p (mM - p)
    rw [← hM2] at this
    exact this
  rw [e2]
  have e3 : sG (fun r => f ((r + (mM - p)) % mM)) p = sG (fun k => f (k + (mM - p))) p := sG_cong (fun k hk => by
    show f _ = f _
    rw [Nat.mod_eq_of_lt (by omega)])
  have e4 : sG (fun k => f ((k + p + (mM - p)) % mM)) (mM - p) = sG f (mM - p) := sG_cong (fun k hk => by
    show f _ = f _
    rw [show k + p + (mM - p) = k + mM by omega, Nat.add_mod_right, Nat.mod_eq_of_lt (by omega)])
  rw [e3, e4, Nat.mul_comm, Nat.add_comm]
def bN : Nat → Nat → Nat
  | 0, _ => 1
  | _ + 1, 0 => 1
  | k + 1, m + 1 => bN k (m + 1) + rot (bN k m) (prt (24 - k) % mM)
theorem sG_one : ∀ n, sG (fun r => if r = 0 then 1 else 0) (n + 1) = 1
  | 0 => by simp [sG]
  | n + 1 => by
    rw [sG, sG_one n, if_neg (by omega)]
    simp
theorem sG_add {f g : Nat → Nat} : ∀ n, sG (fun r => f r + g r) n = sG f n + sG g n
  | 0 => rfl
  | n + 1 => by
    rw [sG, sG, sG, sG_add n, Nat.add_mul]
    omega
theorem bN_eq : ∀ k m, k ≤ 24 → bN k m = sG (dC k m) mM
  | 0, m, _ => (sG_one 65535).symm
  | k + 1, 0, _ => (sG_one 65535).symm
  | k + 1, m + 1, h => by
    have hlt : ∀ r, dC k m r < bB := fun r => by
      have a := dC_le k m r
      have b : 2 ^ k ≤ 2 ^ 24 := Nat.pow_le_pow_right (by decide) (by omega)
      have c : 2 ^ 24 < bB := by decide
      omega
    rw [bN, bN_eq k (m + 1) (by omega), bN_eq k m (by omega), rot_sG hlt (Nat.mod_lt _ (by decide)), ← sG_add]
    rfl
def chk : Nat → Nat → Bool
  | 0, x => Nat.ble x 32
  | l + 1, x => chk l (x % bB ^ (2 ^ l)) && chk l (x / bB ^ (2 ^ l))
theorem chk_sG : ∀ l (f : Nat → Nat), (∀ k, f k < bB) → chk l (sG f (2 ^ l)) = true → ∀ k, k < 2 ^ l → f k ≤ 32
  | 0, f, h, c, k, hk => by
    have e : k = 0 := by simp at hk; exact hk
    subst e
    have : sG f (2 ^ 0) = f 0 := by simp [sG]
    rw [this] at c
    exact Nat.le_of_ble_eq_true c
  | l + 1, f, h, c, k, hk => by
    have e1 : sG f (2 ^ (l + 1)) = sG f (2 ^ l) + bB ^ (2 ^ l) * sG (fun k => f (k + 2 ^ l)) (2 ^ l) := by
      rw [Nat.pow_succ, Nat.mul_two]
      exact sG_split f _ _
    have hl := sG_lt h (2 ^ l)
    have hB : 0 < bB ^ (2 ^ l) := Nat.pow_pos (by decide)
    unfold chk at c
    rw [e1, Nat.add_mul_mod_self_left, Nat.mod_eq_of_lt hl, Nat.add_mul_div_left _ _ hB, Nat.div_eq_of_lt hl, Nat.zero_add, Bool.and_eq_true] at c
    rcases Nat.lt_or_ge k (2 ^ l) with q | q
    · exact chk_sG l f h c.1 k q
    · have := chk_sG l (fun k => f (k + 2 ^ l)) (fun k => h _) c.2 (k - 2 ^ l) (by rw [Nat.pow_succ] at hk; omega)
      have e2 : k - 2 ^ l + 2 ^ l = k := by omega
      rw [e2] at this
      exact this
theorem big_ok : chk 16 (bN 24 6) = true := by decide +kernel
theorem dC_32 {m r : Nat} (hm : m ≤ 6) (hr : r < mM) : dC 24 m r ≤ 32 := by
  have h := chk_sG 16 (dC 24 6) (fun k => Nat.lt_of_le_of_lt (dC_le 24 6 k) (by decide)) (by have := big_ok; rw [bN_eq 24 6 (by decide)] at this; exact this) r hr
  have := dC_mono6 (k := 24) (r := r) m (6 - m)
  rw [show m + (6 - m) = 6 by omega] at this
  omega
theorem wrs_32 {fin most U : Nat} (hf : fin ≤ 24) (hm : most ≤ 6) (hU : 0 < U) : (wrs fin most U).length ≤ 32 := by
  have := wsL_len hf fin most U 0 (Nat.le_refl _) hU
  rw [show fin + (24 - fin) = 24 by omega] at this
  exact Nat.le_trans this (dC_32 hm (Nat.mod_lt _ (by decide)))
