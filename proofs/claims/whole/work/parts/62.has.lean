def sm (f : Nat → Int32) : Nat → Int32
  | 0 => 0
  | n + 1 => sm f n + f n
theorem sm_cong {f g : Nat → Int32} : ∀ {n : Nat}, (∀ k, k < n → f k = g k) → sm f n = sm g n
  | 0, _ => rfl
  | n + 1, h => by rw [sm, sm, sm_cong (fun k hk => h k (by omega)), h n (by omega)]
theorem sm_front (f : Nat → Int32) : ∀ n, sm f (n + 1) = f 0 + sm (fun k => f (k + 1)) n
  | 0 => by rw [sm, sm, sm, Int32.zero_add, Int32.add_zero]
  | n + 1 => by rw [sm, sm_front f n, sm, Int32.add_assoc]
theorem sm_zero {f : Nat → Int32} : ∀ (m n : Nat), (∀ k, n ≤ k → k < n + m → f k = 0) → sm f (n + m) = sm f n
  | 0, _, _ => rfl
  | m + 1, n, h => by rw [← Nat.add_assoc, sm, sm_zero m n (fun k a b => h k a (by omega)), h (n + m) (by omega) (by omega), Int32.add_zero]
theorem w_sumRow {t N : Nat} {Q : Int32 → sT → Prop} {s : sT} (hl : LN t = N) (hN : N < 2147483648) (h : Q (sm (rI s t) N) s) : ∀ m k, k + m = N → c9_sumOfRow_10 t (sm (rI s t) k) (nI N) (nI k) Q s
  | 0, k, e => by
    have e : k = N := e
    subst e
    exact e_c9_sumOfRow_10 (br_f (nI_nlt (Nat.le_refl _) (by omega)) h)
  | m + 1, k, e => by
    refine e_c9_sumOfRow_10 (br_t (nI_lt (by omega) (by omega)) ⟨by rw [hl]; exact vp_in_nI (by omega) (by omega), fun x hx y hy => ?_⟩)
    rw [nI_clamp (by omega)] at hx
    rw [hy, hx, nI_1]
    exact w_sumRow hl hN h m (k + 1) (by omega)
theorem w_sumOf {a d n : Nat} {Q : Int32 → sT → Prop} {s : sT} (hb : ∀ k, k < n → a + d * k < 158) (hn : n < 1000) (h : Q (sm (fun k => rI s 200 (a + d * k)) n) s) : ∀ m k, k + m = n → c12_sumOf_6 (nI a) (nI d) (nI n) (sm (fun k => rI s 200 (a + d * k)) k) (nI k) Q s
  | 0, k, e => by
    have e : k = n := e
    subst e
    exact e_c12_sumOf_6 (br_f (nI_nlt (Nat.le_refl _) (by omega)) h)
  | m + 1, k, e => by
    have hk := hb k (by omega)
    refine e_c12_sumOf_6 (br_t (nI_lt (by omega) (by omega)) ?_)
    rw [pk_mul, nI_add, nI_clamp (by omega), nI_1]
    refine ⟨vp_in_nI hk (by decide), fun x hx => ?_⟩
    rw [hx]
    exact w_sumOf hb hn h m (k + 1) (by omega)
def hc (f : Nat → Nat) (k : Nat) : Int32 := if 0 < f k then 1 else 0
theorem w_hungC {f : Nat → Nat} {Q : Int32 → sT → Prop} {s : sT} (hf : ∀ p, p < 6 → rI s 40 p = nI (f p) ∧ f p < 2147483648) (h : Q (sm (hc f) 6) s) : ∀ m k, k + m = 6 → c9_hungry_13 (sm (hc f) k) (6 : Int32) (nI k) Q s
  | 0, k, e => by
    have e : k = 6 := e
    subst e
    exact e_c9_hungry_13 (br_f (by decide) h)
  | m + 1, k, e => by
    obtain ⟨h1, h2⟩ := hf k (by omega)
    refine e_c9_hungry_13 (br_t (nI_lt (b := 6) (by omega) (by decide)) ⟨vp_in_nI (by omega) (by decide), fun x hx => ?_⟩)
    rw [nI_clamp (by omega), h1] at hx
    rw [hx, nI_1]
    have hN := w_hungC hf h m (k + 1) (by omega)
    rw [sm] at hN
    unfold hc at hN
    refine br_c (fun q y hy => ?_) (fun q y hy => ?_)
    · rw [show (0 : Int32) = nI 0 from rfl, nI_ltI (by decide) h2] at q
      rw [if_pos q] at hN
      rw [hy]
      exact hN
    · rw [show (0 : Int32) = nI 0 from rfl, nI_ltI (by decide) h2] at q
      rw [if_neg q] at hN
      rw [hy]
      exact hN
theorem w_hungR {f : Nat → Nat} {ppl : Nat} {Q : Int32 → sT → Prop} {s : sT} (hP : rI s 193 7 = nI ppl) (h6 : ppl ≤ 6) (hf : ∀ p, p < ppl → rI s 200 (25 + 2 * p) = nI (f p) ∧ f p < 2147483648) (h : Q (sm (hc f) ppl) s) : ∀ m k, k + m = ppl → c12_hungryMany_4 (sm (hc f) k) (nI k) Q s
  | 0, k, e => by
    have e : k = ppl := e
    subst e
    exact e_c12_hungryMany_4 (e_c12_personMany (br_f (by rw [hP]; exact nI_nlt (Nat.le_refl _) (by omega)) h))
  | m + 1, k, e => by
    obtain ⟨h1, h2⟩ := hf k (by omega)
    refine e_c12_hungryMany_4 (e_c12_personMany (br_t (by rw [hP]; exact nI_lt (by omega) (by omega)) (e_c12_hungerOf ?_)))
    rw [vHun, nI_clamp (by omega), h1, nI_1]
    have hN := w_hungR hP h6 hf h m (k + 1) (by omega)
    rw [sm] at hN
    unfold hc at hN
    refine ⟨vp_in_nI (by omega) (by decide), br_c (fun q => ?_) (fun q => ?_)⟩
    · rw [show (0 : Int32) = nI 0 from rfl, nI_ltI (by decide) h2] at q
      rw [if_pos q] at hN
      exact hN
    · rw [show (0 : Int32) = nI 0 from rfl, nI_ltI (by decide) h2] at q
      rw [if_neg q, Int32.add_zero] at hN
      exact hN
theorem op_has {s : sT} (v : Int32) (I : Inv s) : two Inv (c11_has v) (c12_has v) s := by
  obtain ⟨fin, most, ppl, bk, mi, L, lc, cc, w, κ, I⟩ := I
  have II := IA_Inv I
  obtain ⟨-, io, ⟨n1, n2, n3, n4, n5, n6, n7⟩, ⟨c, hf, nw, h1, h2, h3, h4, h5, h6, h7, h8⟩, ⟨x, x1, x2, x3, -⟩, -⟩ := I
  have io2 := io
  obtain ⟨i1, -, -, -, i5, -, -, OC, OR, -⟩ := io2
  have hw : ∀ n, w n < 2147483648 := fun n => by have := n3.1 n; omega
  refine e_c11_has (br_c (fun q => ?_) (fun q0 => br_c (fun q => ?_) (fun q1 => br_c (fun q => ?_) (fun q2 => br_c (fun q => ?_) (fun q3 => br_c (fun q => ?_) (fun q4 => br_c (fun q => ?_) (fun q5 => br_c (fun q => ?_) (fun q6 => br_c (fun q => ?_) (fun q7 => br_c (fun q => ?_) (fun q8 => br_c (fun q => ?_) (fun q9 => ?_)))))))))))
  · exact e_c12_has (br_t q (e_c12_finest ⟨by rw [OC.2.2.2.1, OR.2.2.2.1], II⟩))
  · refine e_c12_has (br_f q0 (br_t q (e_c12_mostParts ?_)))
    rcases i1 with ⟨-, a, b⟩ | ⟨-, -, a, b⟩
    · exact br_f (by rw [a]; decide) ⟨by rw [i5, b], II⟩
    · exact br_t b ⟨by rw [i5, a]; rfl, II⟩
  · exact e_c12_has (br_f q0 (br_f q1 (br_t q (e_c12_personMany ⟨by rw [OC.2.2.2.2.1, OR.2.2.2.2.1], II⟩))))
  · exact e_c12_has (br_f q0 (br_f q1 (br_f q2 (br_t q ⟨by rw [n1.1, n2 0 (by decide)], II⟩))))
  · refine e_c9_allPieces (e_c9_sumOfRow (fun y hy => ?_))
    have hy2 : y = nI 25 := hy
    rw [hy2]
    refine w_sumRow (t := 39) (N := 25) rfl (by decide) ?_ 25 0 rfl
    refine e_c12_has (br_f q0 (br_f q1 (br_f q2 (br_f q3 (br_t q (e_c12_sumOf ?_))))))
    refine w_sumOf (a := 1) (d := 1) (n := 24) (fun k hk => by omega) (by decide) ⟨?_, II⟩ 24 0 rfl
    rw [sm_front, n1.2.1, Int32.zero_add]
    exact sm_cong (fun k hk => by
      rw [n1.2.2.1 (k + 1) (by omega) (by omega)]
      show _ = rI s 200 (1 + 1 * k)
      rw [n2 _ (by omega)]
      congr 2
      omega)
  · refine e_c9_hungry (w_hungC (f := fun p => w (25 + 2 * p)) (fun p hp => ⟨n1.2.2.2.1 p hp, hw _⟩) ?_ 6 0 rfl)
    refine e_c12_has (br_f q0 (br_f q1 (br_f q2 (br_f q3 (br_f q4 (br_t q (e_c12_hungryMany ?_)))))))
    refine w_hungR (f := fun p => w (25 + 2 * p)) (ppl := ppl) OR.2.2.2.2.1 OC.2.1 (fun p hp => ⟨n2 _ (by have := OC.2.1; omega), hw _⟩) ⟨?_, II⟩ ppl 0 (Nat.zero_add _)
    have h6 := OC.2.1
    have := sm_zero (f := hc (fun p => w (25 + 2 * p))) (6 - ppl) ppl (fun k a b => by
      unfold hc
      have e0 := (n3.2.2 k a (by omega)).1
      exact if_neg (by show ¬ 0 < w (25 + 2 * k); omega))
    rw [show ppl + (6 - ppl) = 6 by omega] at this
    exact this
  · refine e_c9_allTimes (e_c9_sumOfRow (fun y hy => ?_))
    have hy2 : y = nI 6 := hy
    have h6 := OC.2.1
    rw [hy2]
    refine w_sumRow (t := 41) (N := 6) rfl (by decide) ?_ 6 0 rfl
    refine e_c12_has (br_f q0 (br_f q1 (br_f q2 (br_f q3 (br_f q4 (br_f q5 (br_t q (e_c12_personMany (e_c12_sumOf ?_)))))))))
    rw [OR.2.2.2.2.1]
    refine w_sumOf (a := 26) (d := 2) (n := ppl) (fun k hk => by omega) (by omega) ⟨?_, II⟩ ppl 0 (Nat.zero_add _)
    have := sm_zero (f := rI s 41) (6 - ppl) ppl (fun k a b => by
      rw [n1.2.2.2.2 k (by omega), (n3.2.2 k a (by omega)).2]
      rfl)
    rw [show ppl + (6 - ppl) = 6 by omega] at this
    rw [this]
    exact sm_cong (fun k hk => by rw [n1.2.2.2.2 k (by omega), n2 _ (by omega)])
  · exact e_c12_has (br_f q0 (br_f q1 (br_f q2 (br_f q3 (br_f q4 (br_f q5 (br_f q6 (br_t q ⟨by rw [n4.1, n5.1], II⟩))))))))
  · exact e_c12_has (br_f q0 (br_f q1 (br_f q2 (br_f q3 (br_f q4 (br_f q5 (br_f q6 (br_f q7 (br_t q ⟨by rw [x2, x3], II⟩)))))))))
  · exact e_c12_has (br_f q0 (br_f q1 (br_f q2 (br_f q3 (br_f q4 (br_f q5 (br_f q6 (br_f q7 (br_f q8 (br_t q ⟨by rw [h5, h6], II⟩))))))))))
  · exact e_c12_has (br_f q0 (br_f q1 (br_f q2 (br_f q3 (br_f q4 (br_f q5 (br_f q6 (br_f q7 (br_f q8 (br_f q9 ⟨rfl, II⟩))))))))))
-- a picture
theorem addB {n : Nat} {x : Int32} {Q : sT → Prop} {s : sT} (hn : n < 69) (e : rI s 0 14 = nI n) (h : Q (wI (wI s 161 n x) 0 14 (nI (n + 1)))) : c11_addByte x Q s := by
  refine e_c11_addByte (br_t (by rw [e]; exact nI_lt (b := 69) hn (by decide)) ⟨by rw [e]; exact vp_in_nI hn (by decide), fun u hu v hv => ?_⟩)
  rw [e, nI_clamp (by omega)] at hu
  have : rI u 0 14 = nI n := by rw [hu, rI_wI, if_neg (by omega)]; exact e
  rw [this, nI_1, hu] at hv
  rw [hv]
  exact h
theorem wrB {n : Nat} {x : Int32} {Q : sT → Prop} {s : sT} (hn : n < 69) (e : rI s 162 111 = nI n) (h : Q (wI (wI s 240 n x) 162 111 (nI (n + 1)))) : c12_writes x Q s := by
  refine e_c12_writes ⟨by rw [e]; exact vp_in_nI hn (by decide), fun u hu v hv => ?_⟩
  rw [e, nI_clamp (by omega)] at hu
  have : rI u 162 111 = nI n := by rw [hu, rI_wI, if_neg (by omega)]; exact e
  rw [this, nI_1, hu] at hv
  rw [hv]
  exact h
/-- the first n places of a picture -/
def pcA (s : sT) (a b j n : Nat) (f : Nat → Int32) : Prop := rI s b j = nI n ∧ ∀ k, k < n → rI s a k = f k
def XpC (a j : Nat) : Bool := Nat.beq a 161 || (Nat.beq a 0 && Nat.beq j 14)
def XpR (a j : Nat) : Bool := Nat.beq a 240 || (Nat.beq a 162 && Nat.beq j 111)
theorem addB2 {n : Nat} {x : Int32} {f : Nat → Int32} {Q : sT → Prop} {s0 s : sT} (hn : n < 69) (F : Fr XpC s0 s) (e : pcA s 161 0 14 n f) (h : ∀ s', Fr XpC s0 s' → pcA s' 161 0 14 (n + 1) (up1 f n x) → Q s') : c11_addByte x Q s := by
  refine addB hn e.1 (h _ (fr_wI (fr_wI F rfl) rfl) ⟨by rw [rI_wI, if_pos ⟨rfl, rfl⟩], fun k hk => ?_⟩)
  rw [rI_wI, if_neg (by omega), rI_wI]
  unfold up1
  by_cases z : k = n
  · rw [if_pos ⟨rfl, z⟩, if_pos z]
  · rw [if_neg (fun y => z y.2), if_neg z]
    exact e.2 k (by omega)
theorem wrB2 {n : Nat} {x : Int32} {f : Nat → Int32} {Q : sT → Prop} {s0 s : sT} (hn : n < 69) (F : Fr XpR s0 s) (e : pcA s 240 162 111 n f) (h : ∀ s', Fr XpR s0 s' → pcA s' 240 162 111 (n + 1) (up1 f n x) → Q s') : c12_writes x Q s := by
  refine wrB hn e.1 (h _ (fr_wI (fr_wI F rfl) rfl) ⟨by rw [rI_wI, if_pos ⟨rfl, rfl⟩], fun k hk => ?_⟩)
  rw [rI_wI, if_neg (by omega), rI_wI]
  unfold up1
  by_cases z : k = n
  · rw [if_pos ⟨rfl, z⟩, if_pos z]
  · rw [if_neg (fun y => z y.2), if_neg z]
    exact e.2 k (by omega)
def two1 (f : Nat → Int32) (n : Nat) (x : Int32) : Nat → Int32 := up1 (up1 f n (x / (256 : Int32))) (n + 1) (x - x / (256 : Int32) * (256 : Int32))
theorem addT2 {n : Nat} {x : Int32} {f : Nat → Int32} {Q : sT → Prop} {s0 s : sT} (hn : n < 68) (F : Fr XpC s0 s) (e : pcA s 161 0 14 n f) (h : ∀ s', Fr XpC s0 s' → pcA s' 161 0 14 (n + 2) (two1 f n x) → Q s') : c11_addTwo x Q s :=
  e_c11_addTwo (addB2 (by omega) F e (fun s1 F1 e1 => addB2 (by omega) F1 e1 (fun s2 F2 e2 => h s2 F2 e2)))
theorem wrT2 {n : Nat} {x : Int32} {f : Nat → Int32} {Q : sT → Prop} {s0 s : sT} (hn : n < 68) (F : Fr XpR s0 s) (e : pcA s 240 162 111 n f) (h : ∀ s', Fr XpR s0 s' → pcA s' 240 162 111 (n + 2) (two1 f n x) → Q s') : c12_writesTwo x Q s :=
  e_c12_writesTwo (wrB2 (by omega) F e (fun s1 F1 e1 => wrB2 (by omega) F1 e1 (fun s2 F2 e2 => h s2 F2 e2)))
def ckF (f : Nat → Int32) : Nat → Int32
  | 0 => 229
  | n + 1 => (((3 : Int32) * ckF f n) + f n) - (((3 : Int32) * ckF f n) + f n) / (251 : Int32) * (251 : Int32)
theorem ckF_cong {f g : Nat → Int32} : ∀ {n : Nat}, (∀ k, k < n → f k = g k) → ckF f n = ckF g n
  | 0, _ => rfl
  | n + 1, h => by rw [ckF, ckF, ckF_cong (fun k hk => h k (by omega)), h n (by omega)]
theorem w_ckC {t N n : Nat} {Q : Int32 → sT → Prop} {s : sT} (hl : LN t = N) (hN : N < 2147483648) (hn : n ≤ N) (h : Q (ckF (rI s t) n) s) : ∀ m k, k + m = n → c10_checkOf_6 t (nI n) (ckF (rI s t) k) (nI k) Q s
  | 0, k, e => by
    have e : k = n := e
    subst e
    exact e_c10_checkOf_6 (br_f (nI_nlt (Nat.le_refl _) (by omega)) h)
  | m + 1, k, e => by
    refine e_c10_checkOf_6 (br_t (nI_lt (by omega) (by omega)) (br_t (by rw [hl]; exact nI_lt (by omega) (by omega)) ⟨by rw [hl]; exact vp_in_nI (by omega) (by omega), fun x hx => ?_⟩))
    rw [nI_clamp (by omega)] at hx
    rw [hx, nI_1]
    exact w_ckC hl hN hn h m (k + 1) (by omega)
theorem w_ckR {t N n : Nat} {Q : Int32 → sT → Prop} {s : sT} (hl : LN t = N) (hN : N < 2147483648) (hn : n ≤ N) (h : Q (ckF (rI s t) n) s) : ∀ m k, k + m = n → c12_checked_6 t (nI n) (ckF (rI s t) k) (nI k) Q s
  | 0, k, e => by
    have e : k = n := e
    subst e
    exact e_c12_checked_6 (br_f (nI_nlt (Nat.le_refl _) (by omega)) h)
  | m + 1, k, e => by
    refine e_c12_checked_6 (br_t (nI_lt (by omega) (by omega)) ⟨by rw [hl]; exact vp_in_nI (by omega) (by omega), fun x hx => ?_⟩)
    rw [nI_clamp (by omega)] at hx
    rw [hx, nI_1]
    exact w_ckR hl hN hn h m (k + 1) (by omega)
