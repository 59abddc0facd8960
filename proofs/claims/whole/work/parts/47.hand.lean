-- a state of the class, a state of the reference: a row of numbers w (0 day, 1 .. 24 pieces, 25 + 2 p hunger, 26 + 2 p times)
def StW (s : sT) (t : Nat) (w : Nat → Nat) : Prop := rI s t 0 = nI (w 0) ∧ rI s (t + 1) 0 = 0 ∧ (∀ n, 1 ≤ n → n < 25 → rI s (t + 1) n = nI (w n)) ∧ (∀ p, p < 6 → rI s (t + 2) p = nI (w (25 + 2 * p))) ∧ (∀ p, p < 6 → rI s (t + 3) p = nI (w (26 + 2 * p)))
def uN (w : Nat → Nat) (k v : Nat) : Nat → Nat := fun j => if j = k then v else w j
def tkW (x : Nat) (w : Nat → Nat) : Nat → Nat := fun n => if 1 ≤ n ∧ n ≤ 24 ∧ x.testBit (n - 1) = true then w n - 1 else w n
def hdW (w : Nat → Nat) (p x : Nat) : Nat → Nat := uN (uN (tkW x w) (25 + 2 * p) 0) (26 + 2 * p) (if w (26 + 2 * p) + 1 < 999 then w (26 + 2 * p) + 1 else 999)
def hgW (w : Nat → Nat) (p : Nat) : Nat → Nat := uN w (25 + 2 * p) (if w (25 + 2 * p) + 1 < 99 then w (25 + 2 * p) + 1 else 99)
def cp (a b : Nat) : Nat := if a < b then a else b
theorem hdW_0 {w : Nat → Nat} {p x : Nat} : hdW w p x 0 = w 0 := by
  unfold hdW uN tkW
  rw [if_neg (by omega), if_neg (by omega), if_neg (by omega)]
theorem hdW_n {w : Nat → Nat} {p x n : Nat} (h : n < 25) : hdW w p x n = tkW x w n := by
  unfold hdW uN
  rw [if_neg (by omega), if_neg (by omega)]
theorem hdW_h {w : Nat → Nat} {p x q : Nat} : hdW w p x (25 + 2 * q) = if q = p then 0 else w (25 + 2 * q) := by
  unfold hdW uN tkW
  by_cases z : q = p
  · subst z
    rw [if_neg (by omega), if_pos rfl, if_pos rfl]
  · rw [if_neg (by omega), if_neg (by omega), if_neg (by omega), if_neg z]
theorem hdW_t {w : Nat → Nat} {p x q : Nat} : hdW w p x (26 + 2 * q) = if q = p then (if w (26 + 2 * p) + 1 < 999 then w (26 + 2 * p) + 1 else 999) else w (26 + 2 * q) := by
  unfold hdW uN tkW
  by_cases z : q = p
  · subst z
    rw [if_pos rfl, if_pos rfl]
  · rw [if_neg (by omega), if_neg (by omega), if_neg (by omega), if_neg z]
theorem hgW_n {w : Nat → Nat} {p n : Nat} (h : n < 25) : hgW w p n = w n := by
  unfold hgW uN
  rw [if_neg (by omega)]
theorem hgW_h {w : Nat → Nat} {p q : Nat} : hgW w p (25 + 2 * q) = if q = p then (if w (25 + 2 * p) + 1 < 99 then w (25 + 2 * p) + 1 else 99) else w (25 + 2 * q) := by
  unfold hgW uN
  by_cases z : q = p
  · subst z
    rw [if_pos rfl, if_pos rfl]
  · rw [if_neg (by omega), if_neg z]
theorem hgW_t {w : Nat → Nat} {p q : Nat} : hgW w p (26 + 2 * q) = w (26 + 2 * q) := by
  unfold hgW uN
  rw [if_neg (by omega)]
/-- what is kept: how many, the rows -/
abbrev kT : Type := Nat × (Nat → Nat → Int32)
def kRow (d p x : Nat) (j : Nat) : Int32 := if j = 0 then nI d else if j = 1 then nI p else nI x
def kA (κ : kT) (d p x : Nat) : kT := if κ.1 < 40 then (κ.1 + 1, fun k j => if k = κ.1 then kRow d p x j else κ.2 k j) else (40, fun k j => if k = 39 then kRow d p x j else κ.2 (k + 1) j)
def KpC (s : sT) (t : Nat) (κ : kT) : Prop := rI s t 6 = nI κ.1 ∧ κ.1 ≤ 40 ∧ ∃ f, f < 40 ∧ rI s t 5 = nI f ∧ ∀ k, k < κ.1 → ∀ j, j < 3 → rI s (t + 4) ((f + k) % 40 * 3 + j) = κ.2 k j
/-- the cells of a state -/
def Xs (t : Nat) (a _ : Nat) : Bool := Nat.beq a t || (Nat.beq a (t + 1) || (Nat.beq a (t + 2) || (Nat.beq a (t + 3) || Nat.beq a (t + 4))))
theorem xs_t {t a j : Nat} (h : a = t ∨ a = t + 1 ∨ a = t + 2 ∨ a = t + 3 ∨ a = t + 4) : Xs t a j = true := by
  unfold Xs
  simp only [Bool.or_eq_true, Nat.beq_eq]
  omega
theorem xs_f {t a j : Nat} (h : a < t ∨ t + 4 < a) : Xs t a j = false := by
  unfold Xs
  rw [Bool.eq_false_iff]
  intro q
  simp only [Bool.or_eq_true, Nat.beq_eq, ne_eq] at q
  omega
def mvF (x : Nat) (d : Int32) (k : Nat) (f : Nat → Int32) : Nat → Int32 := fun n => if 1 ≤ n ∧ n ≤ k ∧ x.testBit (n - 1) = true then f n + d else f n
theorem mvF_s {x k : Nat} {d : Int32} {f : Nat → Int32} (h : x.testBit k = true) : up1 (mvF x d k f) (k + 1) (mvF x d k f (k + 1) + d) = mvF x d (k + 1) f := by
  funext n
  unfold up1 mvF
  by_cases q : n = k + 1
  · subst q
    rw [if_pos rfl, if_neg (by omega), if_pos ⟨by omega, by omega, h⟩]
  · rw [if_neg q]
    by_cases z : 1 ≤ n ∧ n ≤ k ∧ x.testBit (n - 1) = true
    · rw [if_pos z, if_pos ⟨z.1, by omega, z.2.2⟩]
    · rw [if_neg z, if_neg (fun y => z ⟨y.1, by omega, y.2.2⟩)]
theorem mvF_n {x k : Nat} {d : Int32} {f : Nat → Int32} (h : ¬ x.testBit k = true) : mvF x d k f = mvF x d (k + 1) f := by
  funext n
  unfold mvF
  by_cases z : 1 ≤ n ∧ n ≤ k + 1 ∧ x.testBit (n - 1) = true
  · have : n ≤ k := by
      rcases Nat.lt_or_ge k n with q | q
      · have e : n = k + 1 := by omega
        subst e
        exact absurd z.2.2 h
      · exact q
    rw [if_pos z, if_pos ⟨z.1, this, z.2.2⟩]
  · rw [if_neg z, if_neg (fun y => z ⟨y.1, by omega, y.2.2⟩)]
theorem w_move_2 {t x : Nat} {d : Int32} {Q : sT → Prop} {s : sT} (hx : x < 2 ^ 24) (h : Q (wC s (t + 1) (mvF x d 24 (rA s (t + 1))))) : ∀ m k, k + m = 24 → c9_move_2 t (nI x) d (nI (k + 1)) Q (wC s (t + 1) (mvF x d k (rA s (t + 1))))
  | 0, k, e => by
    have e : k = 24 := e
    subst e
    exact e_c9_move_2 (br_t (by decide) h)
  | m + 1, k, e => by
    have hN := w_move_2 hx h m (k + 1) (by omega)
    refine e_c9_move_2 (br_f (nI_nlt (a := 24) (by omega) (by omega)) ?_)
    rw [nI_pred, bit_1 (by omega) (by omega), nI_1, nI_clamp (by omega), rI_wC, if_pos rfl]
    refine br_c (fun q => ⟨vp_in_nI (by omega) (by decide), vp_in_nI (by omega) (by decide), fun u hu => ?_⟩) (fun q => ?_)
    · rw [wI_wC, mvF_s q] at hu
      subst hu
      exact hN
    · rw [mvF_n q]
      exact hN
theorem w_move {t x : Nat} {d : Int32} {Q : sT → Prop} {s : sT} (hx : x < 2 ^ 24) (h : Q (wC s (t + 1) (mvF x d 24 (rA s (t + 1))))) : c9_move t (nI x) d Q s := by
  refine e_c9_move ?_
  have := w_move_2 (d := d) hx h 24 0 rfl
  have e : mvF x d 0 (rA s (t + 1)) = rA s (t + 1) := by
    funext n
    unfold mvF
    rw [if_neg (fun z => by omega)]
  rw [e, wC_self] at this
  exact this
theorem mod40 {f k n : Nat} (hf : f < 40) (hn : n < 40) (hk : k < n) : (f + k) % 40 ≠ (f + n) % 40 := by omega
theorem nI_dec {n : Nat} (h : 1 ≤ n) : nI n + (-1 : Int32) = nI (n - 1) := by
  obtain ⟨m, rfl⟩ : ∃ m, n = m + 1 := ⟨n - 1, by omega⟩
  rw [pk_m1]
  rfl
theorem min_nI {a : Nat} {c : Int32} {b : Nat} (hc : c = nI b) (ha : a < 2 ^ 31) (hb : b < 2 ^ 31) : (if nI a < c then nI a else c) = nI (if a < b then a else b) := by
  subst hc
  by_cases q : a < b
  · rw [if_pos (nI_lt q hb), if_pos q]
  · rw [if_neg (nI_nlt (by omega) ha), if_neg q]
/-- a person is served, in the class -/
theorem w_hand {t p x : Nat} {w : Nat → Nat} {κ : kT} {Q : sT → Prop} {s : sT} (hp : p < 6) (hx : x < 2 ^ 24) (W : StW s t w) (K : KpC s t κ) (hw : wB w) (hs : sB x (fun n => decide (0 < w n)) = true) (h : ∀ s', Fr (Xs t) s s' → StW s' t (hdW w p x) → KpC s' t (kA κ (w 0) p x) → Q s') : c9_hand t (nI p) (nI x) Q s := by
  obtain ⟨W0, W1, W2, W3, W4⟩ := W
  obtain ⟨K1, K2, f, K3, K4, K5⟩ := K
  refine e_c9_hand (w_move hx ?_)
  generalize hu1 : wC s (t + 1) (mvF x (-1) 24 (rA s (t + 1))) = u1
  have r1 : ∀ a j, rI u1 a j = if a = t + 1 then mvF x (-1) 24 (rA s (t + 1)) j else rI s a j := fun a j => by rw [← hu1, rI_wC]
  have F1 : Fr (Xs t) s u1 := by rw [← hu1]; exact fr_wC fr_rf (fun j => xs_t (by omega))
  have hsb := sB_iff.1 hs
  have r2 : ∀ n, 1 ≤ n → n < 25 → rI u1 (t + 1) n = nI (tkW x w n) := fun n h1 h2 => by
    rw [r1, if_pos rfl]
    unfold mvF tkW
    by_cases z : 1 ≤ n ∧ n ≤ 24 ∧ x.testBit (n - 1) = true
    · rw [if_pos z, if_pos z, rA_r, W2 n h1 h2]
      have := hsb (n - 1) (by omega) z.2.2
      rw [show n - 1 + 1 = n by omega] at this
      exact nI_dec (of_decide_eq_true this)
    · rw [if_neg z, if_neg z, rA_r, W2 n h1 h2]
  refine ⟨vp_in_nI hp (by decide), fun u2 hu2 => ⟨vp_in_nI hp (by decide), vp_in_nI hp (by decide), fun u3 hu3 x4 hx4 => ?_⟩⟩
  rw [nI_clamp (by omega)] at hu2 hu3
  have g26 : rI u2 (t + 3) p = nI (w (26 + 2 * p)) := by rw [hu2, rI_wI, if_neg (by omega), r1, if_neg (by omega)]; exact W4 p hp
  have b26 := hw (26 + 2 * p)
  have e26 : (if nI (w (26 + 2 * p)) + (1 : Int32) < (999 : Int32) then nI (w (26 + 2 * p)) + (1 : Int32) else (999 : Int32)) = nI (if w (26 + 2 * p) + 1 < 999 then w (26 + 2 * p) + 1 else 999) := by
    rw [nI_1]; exact min_nI rfl (by omega) (by decide)
  rw [g26, e26] at hu3
  have r3 : ∀ a j, a ≠ t + 1 → rI u3 a j = if a = t + 3 ∧ j = p then nI (if w (26 + 2 * p) + 1 < 999 then w (26 + 2 * p) + 1 else 999) else if a = t + 2 ∧ j = p then 0 else rI s a j := fun a j ha => by
    rw [hu3, rI_wI, hu2, rI_wI, r1, if_neg ha]
  have F3 : Fr (Xs t) s u3 := by rw [hu3]; exact fr_wI (by rw [hu2]; exact fr_wI F1 (xs_t (by omega))) (xs_t (by omega))
  have k5 : rI u3 t 5 = nI f := by rw [r3 _ _ (by omega), if_neg (by omega), if_neg (by omega)]; exact K4
  have k6 : rI u3 t 6 = nI κ.1 := by rw [r3 _ _ (by omega), if_neg (by omega), if_neg (by omega)]; exact K1
  have hx4b : x4 = nI ((f + κ.1) % 40 * 3) := by
    rw [hx4, k5, k6, nI_add, show (40 : Int32) = nI 40 from rfl, pk_rem (by omega) (by decide) (by decide), show (3 : Int32) = nI 3 from rfl, pk_mul]
  have hm : (f + κ.1) % 40 < 40 := Nat.mod_lt _ (by decide)
  subst hx4b
  rw [show (1 : Int32) = nI 1 from rfl, show (2 : Int32) = nI 2 from rfl, nI_add, nI_add]
  refine ⟨vp_in_nI (by omega) (by decide), fun u5 hu5 => ⟨vp_in_nI (by omega) (by decide), fun u6 hu6 => ⟨vp_in_nI (by omega) (by decide), fun u7 hu7 => ?_⟩⟩⟩
  rw [nI_clamp (by omega)] at hu5 hu6 hu7
  have k0 : rI u3 t 0 = nI (w 0) := by rw [r3 _ _ (by omega), if_neg (by omega), if_neg (by omega)]; exact W0
  rw [k0] at hu5
  have r7 : ∀ a j, a ≠ t + 4 → rI u7 a j = rI u3 a j := fun a j ha => by rw [hu7, rI_wI, if_neg (by omega), hu6, rI_wI, if_neg (by omega), hu5, rI_wI, if_neg (by omega)]
  have r7k : ∀ m j, m < 40 → j < 3 → rI u7 (t + 4) (m * 3 + j) = if m = (f + κ.1) % 40 then kRow (w 0) p x j else rI s (t + 4) (m * 3 + j) := fun m j h1 h2 => by
    have e3 : ∀ i, rI u3 (t + 4) i = rI s (t + 4) i := fun i => by rw [r3 _ _ (by omega), if_neg (by omega), if_neg (by omega)]
    rw [hu7, rI_wI, hu6, rI_wI, hu5, rI_wI, e3]
    by_cases q : m = (f + κ.1) % 40
    · subst q
      rw [if_pos rfl]
      have : j = 0 ∨ j = 1 ∨ j = 2 := by omega
      rcases this with rfl | rfl | rfl
      · rw [if_neg (by omega), if_neg (by omega), if_pos ⟨rfl, rfl⟩]; rfl
      · rw [if_neg (by omega), if_pos ⟨rfl, rfl⟩]; rfl
      · rw [if_pos ⟨rfl, rfl⟩]; rfl
    · rw [if_neg q, if_neg (by omega), if_neg (by omega), if_neg (by omega)]
  have F7 : Fr (Xs t) s u7 := by rw [hu7]; exact fr_wI (by rw [hu6]; exact fr_wI (by rw [hu5]; exact fr_wI F3 (xs_t (by omega))) (xs_t (by omega))) (xs_t (by omega))
  have st1 : ∀ s', (∀ a j, a ≠ t → rI s' a j = rI u7 a j) → rI s' t 0 = rI u7 t 0 → StW s' t (hdW w p x) := fun s' g1 g2 => by
    refine ⟨?_, ?_, fun n h1 h2 => ?_, fun q hq => ?_, fun q hq => ?_⟩
    · rw [g2, r7 _ _ (by omega), k0, hdW_0]
    · rw [g1 _ _ (by omega), r7 _ _ (by omega), hu3, rI_wI, if_neg (by omega), hu2, rI_wI, if_neg (by omega), r1, if_pos rfl]
      unfold mvF
      rw [if_neg (by omega)]
      exact W1
    · rw [g1 _ _ (by omega), r7 _ _ (by omega), hu3, rI_wI, if_neg (by omega), hu2, rI_wI, if_neg (by omega), r2 n h1 h2, hdW_n h2]
    · rw [g1 _ _ (by omega), r7 _ _ (by omega), r3 _ _ (by omega), if_neg (by omega), hdW_h, W3 q hq]
      by_cases z : q = p
      · rw [if_pos ⟨rfl, z⟩, if_pos z]; rfl
      · rw [if_neg (fun y => z y.2), if_neg z]
    · rw [g1 _ _ (by omega), r7 _ _ (by omega), r3 _ _ (by omega), hdW_t, W4 q hq]
      by_cases z : q = p
      · rw [if_pos ⟨rfl, z⟩, if_pos z]
      · rw [if_neg (fun y => z y.2), if_neg (by omega), if_neg z]
  have e6 : rI u7 t 6 = nI κ.1 := by rw [r7 _ _ (by omega)]; exact k6
  have e5 : rI u7 t 5 = nI f := by rw [r7 _ _ (by omega)]; exact k5
  rw [e6, e5]
  refine br_c (fun q u8 hu8 => ?_) (fun q u9 hu9 => ?_)
  · have q' : κ.1 < 40 := by
      rw [show (40 : Int32) = nI 40 from rfl, nI_ltI (by omega) (by decide)] at q
      exact q
    rw [← show (1 : Int32) = nI 1 from rfl, nI_1] at hu8
    refine h u8 (by rw [hu8]; exact fr_wI F7 (xs_t (by omega))) (st1 u8 (fun a j ha => by rw [hu8, rI_wI, if_neg (by omega)]) (by rw [hu8, rI_wI, if_neg (by omega)])) ?_
    unfold kA
    rw [if_pos q']
    refine ⟨by rw [hu8, rI_wI, if_pos ⟨rfl, rfl⟩], by show κ.1 + 1 ≤ 40; omega, f, K3, by rw [hu8, rI_wI, if_neg (by omega)]; exact e5, fun k hk j hj => ?_⟩
    have hk : k < κ.1 + 1 := hk
    show rI u8 (t + 4) _ = if k = κ.1 then kRow (w 0) p x j else κ.2 k j
    rw [hu8, rI_wI, if_neg (by omega), r7k _ _ (Nat.mod_lt _ (by decide)) hj]
    by_cases z : k = κ.1
    · subst z
      rw [if_pos rfl, if_pos rfl]
    · rw [if_neg (mod40 K3 q' (by omega)), if_neg z]
      exact K5 k (by omega) j hj
  · have q' : κ.1 = 40 := by
      rw [show (40 : Int32) = nI 40 from rfl, nI_ltI (by omega) (by decide)] at q
      omega
    have e9 : nI f + nI 1 - (nI f + nI 1) / (40 : Int32) * (40 : Int32) = nI ((f + 1) % 40) := by
      rw [nI_add, show (40 : Int32) = nI 40 from rfl, pk_rem (by omega) (by decide) (by decide)]
    rw [e9] at hu9
    refine h u9 (by rw [hu9]; exact fr_wI F7 (xs_t (by omega))) (st1 u9 (fun a j ha => by rw [hu9, rI_wI, if_neg (by omega)]) (by rw [hu9, rI_wI, if_neg (by omega)])) ?_
    unfold kA
    rw [if_neg (by omega)]
    refine ⟨by rw [hu9, rI_wI, if_neg (by omega), e6, q'], Nat.le_refl 40, (f + 1) % 40, Nat.mod_lt _ (by decide), by rw [hu9, rI_wI, if_pos ⟨rfl, rfl⟩], fun k hk j hj => ?_⟩
    have hk : k < 40 := hk
    show rI u9 (t + 4) _ = if k = 39 then kRow (w 0) p x j else κ.2 (k + 1) j
    rw [hu9, rI_wI, if_neg (by omega), r7k _ _ (Nat.mod_lt _ (by decide)) hj, q']
    by_cases z : k = 39
    · subst z
      rw [if_pos (by omega), if_pos rfl]
    · rw [if_neg (by omega), if_neg z]
      have := K5 (k + 1) (by omega) j hj
      rw [show (f + 1) % 40 + k = (f + 1) % 40 + k from rfl]
      have e : ((f + 1) % 40 + k) % 40 = (f + (k + 1)) % 40 := by omega
      rw [e]
      exact this
theorem w_hungry {t p : Nat} {w : Nat → Nat} {κ : kT} {Q : sT → Prop} {s : sT} (hp : p < 6) (W : StW s t w) (K : KpC s t κ) (hw : wB w) (h : ∀ s', Fr (Xs t) s s' → StW s' t (hgW w p) → KpC s' t κ → Q s') : c9_goHungry t (nI p) Q s := by
  obtain ⟨W0, W1, W2, W3, W4⟩ := W
  obtain ⟨K1, K2, f, K3, K4, K5⟩ := K
  refine e_c9_goHungry ⟨vp_in_nI hp (by decide), vp_in_nI hp (by decide), fun u hu => ?_⟩
  have b25 := hw (25 + 2 * p)
  rw [nI_clamp (by omega), W3 p hp, nI_1, min_nI (c := (99 : Int32)) (b := 99) rfl (by omega) (by decide)] at hu
  have r : ∀ a j, rI u a j = if a = t + 2 ∧ j = p then nI (if w (25 + 2 * p) + 1 < 99 then w (25 + 2 * p) + 1 else 99) else rI s a j := fun a j => by rw [hu, rI_wI]
  refine h u (by rw [hu]; exact fr_wI fr_rf (xs_t (by omega))) ?_ ⟨by rw [r, if_neg (by omega)]; exact K1, K2, f, K3, by rw [r, if_neg (by omega)]; exact K4, fun k hk j hj => by rw [r, if_neg (by omega)]; exact K5 k hk j hj⟩
  refine ⟨?_, ?_, fun n h1 h2 => ?_, fun q hq => ?_, fun q hq => ?_⟩
  · rw [r, if_neg (by omega), W0, hgW_n (by omega)]
  · rw [r, if_neg (by omega)]; exact W1
  · rw [r, if_neg (by omega), W2 n h1 h2, hgW_n h2]
  · rw [r, hgW_h, W3 q hq]
    by_cases z : q = p
    · rw [if_pos ⟨rfl, z⟩, if_pos z]
    · rw [if_neg (fun y => z y.2), if_neg z]
  · rw [r, if_neg (by omega), W4 q hq, hgW_t]
