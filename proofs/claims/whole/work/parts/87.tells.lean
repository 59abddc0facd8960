-- the telling
def teP (f : Nat → Nat → Nat) (d : Nat) : Nat → Nat → Nat × Nat × Nat → Nat × Nat × Nat
  | 0, _, z => z
  | m + 1, p, z => teP f d m (p + 1) (if f d p < z.2.2 then (d, p, f d p) else z)
def teD (f : Nat → Nat → Nat) (ppl : Nat) : Nat → Nat → Nat × Nat × Nat → Nat × Nat × Nat
  | 0, _, z => z
  | m + 1, d, z => teD f ppl m (d + 1) (teP f d ppl 0 z)
theorem teP_le {f : Nat → Nat → Nat} {d : Nat} : ∀ m p z, (teP f d m p z).2.2 ≤ z.2.2
  | 0, _, _ => Nat.le_refl _
  | m + 1, p, z => by
    unfold teP
    refine Nat.le_trans (teP_le m (p + 1) _) ?_
    split
    · exact Nat.le_of_lt (by assumption)
    · exact Nat.le_refl _
theorem teD_le {f : Nat → Nat → Nat} {ppl : Nat} : ∀ m d z, (teD f ppl m d z).2.2 ≤ z.2.2
  | 0, _, _ => Nat.le_refl _
  | m + 1, d, z => Nat.le_trans (teD_le m (d + 1) _) (teP_le ppl 0 z)
theorem teP_at {f : Nat → Nat → Nat} {d m p T : Nat} {z : Nat × Nat × Nat} (h : f d p ≤ T) : (teP f d (m + 1) p z).2.2 ≤ T := by
  unfold teP
  refine Nat.le_trans (teP_le m (p + 1) _) ?_
  split
  · exact h
  · omega
theorem teD_at {f : Nat → Nat → Nat} {m ppl T : Nat} {z : Nat × Nat × Nat} (h : f 0 0 ≤ T) (hp : 1 ≤ ppl) (hm : 1 ≤ m) : (teD f ppl m 0 z).2.2 ≤ T := by
  obtain ⟨m, rfl⟩ : ∃ k, m = k + 1 := ⟨m - 1, by omega⟩
  obtain ⟨q, rfl⟩ : ∃ k, ppl = k + 1 := ⟨ppl - 1, by omega⟩
  exact Nat.le_trans (teD_le m 1 _) (teP_at h)
/-- how many of the stocks agree that a person is served at a day -/
def cA (hb : Nat → Bool) (bb : Nat → Nat → Nat) (d p : Nat) (n : Nat) : Nat := fb_ct (fun i => hb i && (bb i d).testBit p) n
def mxA (hb : Nat → Bool) (bb : Nat → Nat → Nat) (d p : Nat) : Nat := if cA hb bb d p 31 < fb_ct hb 31 - cA hb bb d p 31 then fb_ct hb 31 - cA hb bb d p 31 else cA hb bb d p 31
theorem cA_le {hb : Nat → Bool} {bb : Nat → Nat → Nat} {d p n : Nat} : cA hb bb d p n ≤ fb_ct hb n := fb_ct_sub (fun k _ h => by
  rw [Bool.and_eq_true] at h
  exact h.1)
theorem mxA_le {hb : Nat → Bool} {bb : Nat → Nat → Nat} {d p : Nat} : mxA hb bb d p ≤ fb_ct hb 31 := by
  have := cA_le (hb := hb) (bb := bb) (d := d) (p := p) (n := 31)
  unfold mxA
  split <;> omega
theorem mB_bit {hb : Nat → Bool} {n : Nat} (h : n < 31) : (mB hb 31).testBit n = hb n := by
  rw [mB_t]
  simp [h]
theorem mB_ct {hb : Nat → Bool} : pcH 31 (mB hb 31) = fb_ct hb 31 := by
  rw [pcH_ct]
  exact fb_ct_cong (fun k hk => mB_bit hk)
theorem fb_ct_yes' {p : Nat → Bool} {n : Nat} (h : p n = true) : fb_ct p (n + 1) = fb_ct p n + 1 := by rw [fb_ct_succ, if_pos h]
theorem fb_ct_no' {p : Nat → Bool} {n : Nat} (h : p n = false) : fb_ct p (n + 1) = fb_ct p n := by rw [fb_ct_succ, if_neg (by rw [h]; decide), Nat.add_zero]
theorem w_servedBy {hb : Nat → Bool} {bb : Nat → Nat → Nat} {D d p : Nat} {Q : Int32 → sT → Prop} {s : sT} (T : seenT s 156 bb D 31 0) (hd : d < D) (hD : D ≤ 31) (hp : p < 6) (hbb : ∀ n k, bb n k < 2 ^ 6) (h : Q (nI (cA hb bb d p 31)) s) : c5_servedBy (nI (mB hb 31)) (nI d) (nI p) Q s := by
  have hS := mB_lt hb 31
  have main : ∀ m n, n + m = 31 → c5_servedBy_6 (nI (mB hb 31)) (nI d) (nI p) (nI (cA hb bb d p n)) (nI n) Q s := by
    intro m
    induction m with
    | zero =>
      intro n e
      have e : n = 31 := e
      subst e
      exact e_c5_servedBy_6 (br_f (by decide) h)
    | succ m ih =>
      intro n e
      refine e_c5_servedBy_6 (br_t (nI_lt (b := 31) (by omega) (by decide)) ?_)
      have hi : (nI n * (31 : Int32)) + nI d = nI (31 * n + d) := by rw [show (31 : Int32) = nI 31 from rfl, pk_mul, nI_add, Nat.mul_comm]
      rw [hi]
      refine ⟨vp_in_nI (by omega) (by decide), fun x hx => ?_⟩
      have hb6 := hbb n d
      rw [nI_clamp (by omega), T n d hd (by omega) (Or.inl (by omega)), pk_shrN hS (nI n &&& 31) n (sx31 n (by omega)), pk_shrN (by omega) (nI p &&& 31) p (sx31 p (by omega)), fa_and, show (1 : Int32) = nI 1 from rfl, fa_and, Nat.and_one_is_mod, and_bit, nI_add, mB_bit (by omega)] at hx
      have e2 : cA hb bb d p n + B01 (hb n && (bb n d).testBit p) = cA hb bb d p (n + 1) := rfl
      rw [e2] at hx
      rw [hx, nI_1]
      exact ih (n + 1) (by omega)
  exact e_c5_servedBy (main 31 0 (by decide))
theorem w_mostAlike {hb : Nat → Bool} {bb : Nat → Nat → Nat} {d p : Nat} {Q : Int32 → sT → Prop} {s : sT} (T : seenT s 211 bb 31 31 0) (hd : d < 31) (hp : p < 6) (hbb : ∀ n k, bb n k < 2 ^ 6) (h : Q (nI (mxA hb bb d p)) s) : c12_mostAlike (nI (mB hb 31)) (nI d) (nI p) Q s := by
  have hS := mB_lt hb 31
  have hle := cA_le (hb := hb) (bb := bb) (d := d) (p := p) (n := 31)
  have hle2 := fb_ct_le hb 31
  have main : ∀ m n, n + m = 31 → c12_mostAlike_6 (nI (mB hb 31)) (nI d) (nI p) (nI (cA hb bb d p n)) (nI n) Q s := by
    intro m
    induction m with
    | zero =>
      intro n e
      have e : n = 31 := e
      subst e
      refine e_c12_mostAlike_6 (br_t (by decide) (w_bitsL hS (fun x hx => ?_)))
      rw [mB_ct, pk_sub hle] at hx
      rw [hx, nI_ltI (by omega) (by omega)]
      unfold mxA at h
      refine br_c (fun q => ?_) (fun q => ?_)
      · rw [if_pos q] at h; exact h
      · rw [if_neg q] at h; exact h
    | succ m ih =>
      intro n e
      have hi : ((31 : Int32) * nI n) + nI d = nI (31 * n + d) := by rw [show (31 : Int32) = nI 31 from rfl, pk_mul, nI_add]
      have hb6 := hbb n d
      have nx := ih (n + 1) (by omega)
      refine e_c12_mostAlike_6 (br_f (nI_nlt (a := 30) (by omega) (by decide)) ?_)
      rw [hi, bit_1 hS (by omega), mB_bit (by omega), nI_clamp (by omega), T n d hd (by omega) (Or.inl (by omega)), bit_1 (by omega) (by omega), nI_1, nI_1]
      refine br_c (fun q => ⟨vp_in_nI (by omega) (by decide), br_c (fun q2 => ?_) (fun q2 => ?_)⟩) (fun q => ?_)
      · have e2 : cA hb bb d p (n + 1) = cA hb bb d p n + 1 := fb_ct_yes' (by rw [q, q2]; rfl)
        rw [e2] at nx
        exact nx
      · have e2 : cA hb bb d p (n + 1) = cA hb bb d p n := fb_ct_no' (by rw [q, Bool.eq_false_iff.2 q2]; rfl)
        rw [e2] at nx
        exact nx
      · have e2 : cA hb bb d p (n + 1) = cA hb bb d p n := fb_ct_no' (by rw [Bool.eq_false_iff.2 q]; rfl)
        rw [e2] at nx
        exact nx
  exact e_c12_mostAlike (main 31 0 (by decide))
