/-- byte j of a number, the greatest first -/
def byt (v : Int32) (j : Nat) : Int32 := (v >>> (nI (24 - 8 * j) &&& 31)) &&& (255 : Int32)
theorem byt_b (v : Int32) (j : Nat) : ∃ b, b < 256 ∧ byt v j = nI b := pk_andE _ 8 rfl
def XTa (a b x y : Nat) : Bool := (Nat.beq x b && Nat.beq y 1) || Nat.beq x a
/-- bytes written to the end of a tape: cells a, how many at b 1 -/
def tpW (a b : Nat) (B : Nat → Int32) (n i : Nat) (s0 s : sT) : Prop := Fr (XTa a b) s0 s ∧ rI s b 1 = nI (n + i) ∧ ∀ j, rI s a j = if n ≤ j ∧ j < n + i then B (j - n) else rI s0 a j
theorem tpW_1 {a b n i : Nat} {B : Nat → Int32} {s0 s u : sT} (hab : (a = 3 ∧ b = 2) ∨ (a = 163 ∧ b = 162)) (h : tpW a b B n i s0 s) (e : u = wI (wI s a (n + i) (B i)) b 1 (nI (n + i + 1))) : tpW a b B n (i + 1) s0 u := by
  obtain ⟨F, c, g⟩ := h
  refine ⟨?_, ?_, fun j => ?_⟩
  · rw [e]
    rcases hab with ⟨rfl, rfl⟩ | ⟨rfl, rfl⟩
    · exact fr_wI (fr_wI F rfl) rfl
    · exact fr_wI (fr_wI F rfl) rfl
  · rw [e, rI_wI, if_pos ⟨rfl, rfl⟩]; rfl
  · rw [e, rI_wI, if_neg (by omega), rI_wI]
    by_cases z : j = n + i
    · rw [if_pos ⟨rfl, z⟩, if_pos (by omega), show j - n = i by omega]
    · rw [if_neg (fun y => z y.2), g j]
      by_cases y : n ≤ j ∧ j < n + i
      · rw [if_pos y, if_pos (by omega)]
      · rw [if_neg y, if_neg (by omega)]
def sx (j : Nat) : Int32 := if j < 4 then nI (24 - 8 * j) else -8
theorem sx_s : ∀ j, j < 4 → sx j + (-8 : Int32) = sx (j + 1) := by decide
theorem w_ad18 {B : Nat → Int32} {n k : Nat} {v : Int32} {Q : sT → Prop} {s0 : sT} (hn : n + (4 * k + 4) ≤ 1600) (hB : ∀ j, j < 4 → B (4 * k + j) = byt v j) (h : ∀ s, tpW 3 2 B n (4 * k + 4) s0 s → Q s) : ∀ m j s, j + m = 4 → tpW 3 2 B n (4 * k + j) s0 s → c10_add_18 v (sx j) Q s
  | 0, j, s, e, T => by
    have e : j = 4 := e
    subst e
    exact e_c10_add_18 (br_t (by decide) (h s T))
  | m + 1, j, s, e, T => by
    have hj : j < 4 := by omega
    have ex : sx j = nI (24 - 8 * j) := if_pos hj
    refine e_c10_add_18 (br_f (by rw [ex]; exact nI_pos (by omega)) ?_)
    rw [T.2.1]
    refine ⟨vp_in_nI (by omega) (by decide), fun u1 h1 u2 h2 => ?_⟩
    rw [nI_clamp (by omega), ex] at h1
    rw [show rI u1 2 1 = nI (n + (4 * k + j)) by rw [h1, rI_wI, if_neg (by omega)]; exact T.2.1, nI_1, h1] at h2
    rw [sx_s j hj]
    refine w_ad18 hn hB h m (j + 1) u2 (by omega) (tpW_1 (i := 4 * k + j) (Or.inl ⟨rfl, rfl⟩) T ?_)
    rw [h2, hB j hj]
    rfl
theorem w_add {B : Nat → Int32} {n k : Nat} {v : Int32} {Q : sT → Prop} {s0 s : sT} (hn : n + (4 * k + 4) ≤ 1600) (hB : ∀ j, j < 4 → B (4 * k + j) = byt v j) (T : tpW 3 2 B n (4 * k) s0 s) (h : ∀ s, tpW 3 2 B n (4 * (k + 1)) s0 s → Q s) : c10_add v Q s := by
  refine e_c10_add (br_f ?_ (w_ad18 hn hB h 4 0 s rfl T))
  rw [T.2.1, show (4 : Int32) = nI 4 from rfl, nI_add]
  exact nI_nlt (a := 1600) (by omega) (by decide)
def vs5 (v1 v2 v3 v4 v5 : Int32) (k : Nat) : Int32 := if k = 0 then v1 else if k = 1 then v2 else if k = 2 then v3 else if k = 3 then v4 else v5
theorem w_feR {n : Nat} {v1 v2 v3 v4 v5 : Int32} {Q : Int32 → sT → Prop} {s0 : sT} (hn : n + 20 ≤ 1600) (h : ∀ s, tpW 163 162 (fun k => byt (vs5 v1 v2 v3 v4 v5 (k / 4)) (k % 4)) n 20 s0 s → Q (nI (n + 20)) s) : ∀ m i s, i + m = 20 → tpW 163 162 (fun k => byt (vs5 v1 v2 v3 v4 v5 (k / 4)) (k % 4)) n i s0 s → c12_feed_28 v1 v2 v3 v4 v5 (nI i) Q s
  | 0, i, s, e, T => by
    have e : i = 20 := e
    subst e
    refine e_c12_feed_28 (br_f (by decide) ?_)
    rw [T.2.1]
    exact h s T
  | m + 1, i, s, e, T => by
    have step : ∀ k0, k0 = vs5 v1 v2 v3 v4 v5 (i / 4) → c12_feed_81 v1 v2 v3 v4 v5 (nI i) k0 Q (fun v1 v2 v3 v4 v5 v6 s => c12_feed_28 v1 v2 v3 v4 v5 v6 Q s) s := fun k0 hk => by
      refine e_c12_feed_81 ?_
      rw [T.2.1]
      refine ⟨vp_in_nI (by omega) (by decide), fun u1 h1 u2 h2 => ?_⟩
      have ei : (8 : Int32) * ((3 : Int32) - (nI i - nI i / (4 : Int32) * (4 : Int32))) = nI (24 - 8 * (i % 4)) := by
        rw [show (4 : Int32) = nI 4 from rfl, pk_rem (by omega) (by decide) (by decide), show (3 : Int32) = nI 3 from rfl, pk_sub (by omega), show (8 : Int32) = nI 8 from rfl, pk_mul]
        congr 1
        omega
      rw [nI_clamp (by omega), ei, hk] at h1
      rw [show rI u1 162 1 = nI (n + i) by rw [h1, rI_wI, if_neg (by omega)]; exact T.2.1, nI_1, h1] at h2
      rw [nI_1]
      exact w_feR hn h m (i + 1) u2 (by omega) (tpW_1 (Or.inr ⟨rfl, rfl⟩) T h2)
    refine e_c12_feed_28 (br_t (nI_lt (b := 20) (by omega) (by decide)) ?_)
    rw [show (4 : Int32) = nI 4 from rfl, nI_ltI (by omega) (by decide), show (8 : Int32) = nI 8 from rfl, nI_ltI (by omega) (by decide), show (12 : Int32) = nI 12 from rfl, nI_ltI (by omega) (by decide), show (16 : Int32) = nI 16 from rfl, nI_ltI (by omega) (by decide)]
    refine br_c (fun q => step _ ?_) (fun q => br_c (fun q2 => step _ ?_) (fun q2 => br_c (fun q3 => step _ ?_) (fun q3 => br_c (fun q4 => step _ ?_) (fun q4 => step _ ?_))))
    · rw [show i / 4 = 0 by omega]; rfl
    · rw [show i / 4 = 1 by omega]; rfl
    · rw [show i / 4 = 2 by omega]; rfl
    · rw [show i / 4 = 3 by omega]; rfl
    · rw [show i / 4 = 4 by omega]; rfl
theorem op_feed {s : sT} (v1 v2 v3 v4 v5 : Int32) (I : Inv s) : two Inv (c11_feed v1 v2 v3 v4 v5) (c12_feed v1 v2 v3 v4 v5) s := by
  obtain ⟨fin, most, ppl, bk, mi, L, lc, cc, w, κ, ⟨c1, ⟨n, hn, tC, tR, tb⟩, -⟩, -⟩ := id I
  by_cases ok : n + 20 ≤ 1600
  · have hB : ∀ k, k < 5 → ∀ j, j < 4 → (fun k => byt (vs5 v1 v2 v3 v4 v5 (k / 4)) (k % 4)) (4 * k + j) = byt (vs5 v1 v2 v3 v4 v5 k) j := fun k hk j hj => by
      dsimp only
      rw [show (4 * k + j) / 4 = k by omega, show (4 * k + j) % 4 = j by omega]
    refine e_c11_feed (br_f (by rw [tC, show (20 : Int32) = nI 20 from rfl, nI_add]; exact nI_nlt (a := 1600) (by omega) (by decide)) ?_)
    refine w_add (B := fun k => byt (vs5 v1 v2 v3 v4 v5 (k / 4)) (k % 4)) (n := n) (k := 0) (s0 := s) (by omega) (hB 0 (by decide)) ⟨fr_rf, tC, fun j => (if_neg (by omega)).symm⟩ (fun s1 T1 => ?_)
    refine w_add (k := 1) (by omega) (hB 1 (by decide)) T1 (fun s2 T2 => ?_)
    refine w_add (k := 2) (by omega) (hB 2 (by decide)) T2 (fun s3 T3 => ?_)
    refine w_add (k := 3) (by omega) (hB 3 (by decide)) T3 (fun s4 T4 => ?_)
    refine w_add (k := 4) (by omega) (hB 4 (by decide)) T4 (fun s5 T5 => ?_)
    have x162 : rI s5 162 1 = nI n := by rw [T5.1.1 _ _ rfl]; exact tR
    refine e_c12_feed (br_f (by rw [x162, show (20 : Int32) = nI 20 from rfl, nI_add]; exact nI_nlt (a := 1600) (by omega) (by decide)) ?_)
    refine w_feR ok (fun s6 T6 => ?_) 20 0 s5 rfl ⟨fr_rf, x162, fun j => (if_neg (by omega)).symm⟩
    have F : Fr XT s s6 := fr_tr (fr_mo T5.1 (fun a j q => by
      unfold XTa at q
      unfold XT
      simp only [Bool.or_eq_true, Bool.and_eq_true, Nat.beq_eq] at q ⊢
      omega)) (fr_mo T6.1 (fun a j q => by
      unfold XTa at q
      unfold XT
      simp only [Bool.or_eq_true, Bool.and_eq_true, Nat.beq_eq] at q ⊢
      omega))
    have c6 : rI s6 2 1 = nI (n + 20) := by rw [T6.1.1 _ _ rfl]; exact T5.2.1
    refine ⟨T5.2.1, Inv_XT I F ⟨n + 20, ok, c6, T6.2.1, fun k hk => ?_⟩⟩
    rw [T6.2.2 k, T6.1.1 3 k rfl, T5.2.2 k, T5.1.1 163 k rfl]
    by_cases z : n ≤ k ∧ k < n + 20
    · rw [if_pos z, if_pos z]
      obtain ⟨b, hb, e⟩ := byt_b (vs5 v1 v2 v3 v4 v5 ((k - n) / 4)) ((k - n) % 4)
      exact ⟨b, hb, e, e⟩
    · rw [if_neg z, if_neg z]
      exact tb k hk
  · refine e_c11_feed (br_t (by rw [tC, show (20 : Int32) = nI 20 from rfl, nI_add]; exact nI_lt (a := 1600) (by omega) (by omega)) (refC (k := 0) (by decide) ?_))
    refine e_c12_feed (br_t (by rw [rI_wI, if_neg (by omega), tR, show (20 : Int32) = nI 20 from rfl, nI_add]; exact nI_lt (a := 1600) (by omega) (by omega)) (fun u hu => ⟨rfl, hu ▸ Inv_bump I⟩))
