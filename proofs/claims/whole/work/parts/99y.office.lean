-- an office, in both
theorem nI_all (v : Int32) : ∃ i, v = nI i := ⟨v.toBitVec.toNat, by
  apply Int32.toBitVec_inj.1
  show v.toBitVec = BitVec.ofNat 32 v.toBitVec.toNat
  simp⟩
def XOI (a j : Nat) : Bool := (Nat.beq a 162 && ((Nat.ble 1 j && Nat.ble j 6) || Nat.beq j 47)) || ((Nat.beq a 193 && Nat.blt j 5) || (Nat.beq a 196 || (Nat.beq a 197 && Nat.blt j 2)))
theorem xoi_t {a j : Nat} (h : (a = 162 ∧ ((1 ≤ j ∧ j ≤ 6) ∨ j = 47)) ∨ (a = 193 ∧ j < 5) ∨ a = 196 ∨ (a = 197 ∧ j < 2)) : XOI a j = true := by
  unfold XOI
  simp only [Bool.or_eq_true, Bool.and_eq_true, Nat.beq_eq, Nat.ble_eq, Nat.blt_eq]
  omega
theorem xoi_f {a j : Nat} (h : XOI a j = true) : (a = 162 ∧ ((1 ≤ j ∧ j ≤ 6) ∨ j = 47)) ∨ (a = 193 ∧ j < 5) ∨ a = 196 ∨ (a = 197 ∧ j < 2) := by
  unfold XOI at h
  simp only [Bool.or_eq_true, Bool.and_eq_true, Nat.beq_eq, Nat.ble_eq, Nat.blt_eq] at h
  omega
theorem of_90 {Q : Int32 → sT → Prop} {s0 : sT} (h : ∀ s, Fr (XWl 197 0 2) s0 s → (∀ j, j < 2 → rI s 197 j = (-1 : Int32)) → c12_finestTold (OFI Q) s) : c12_office_90 (0 : Int32) Q s0 := by
  refine fill_loop (W := fun k s => c12_office_90 (nI k) Q s) (a := 197) (off := 0) (N := 2) (g := fun _ => (-1 : Int32)) (fun k s hk F g => ?_) (fun s F g => e_c12_office_90 (br_f (by decide) (h s F (fun j hj => by have := g j hj; rw [Nat.zero_add] at this; exact this))))
  refine e_c12_office_90 (br_t (nI_lt (b := 2) hk (by decide)) ⟨vp_in_nI (by omega) (by decide), fun u hu => ?_⟩)
  rw [nI_clamp (by omega)] at hu
  rw [nI_1]
  exact g u (by rw [Nat.zero_add]; exact hu)
theorem of_69 {Q : Int32 → sT → Prop} {s0 : sT} (h : ∀ s, Fr (XWl 196 0 25) s0 s → (∀ j, j < 25 → rI s 196 j = 0) → c12_office_90 (0 : Int32) Q s) : c12_office_69 (0 : Int32) Q s0 := by
  refine fill_loop (W := fun k s => c12_office_69 (nI k) Q s) (a := 196) (off := 0) (N := 25) (g := fun _ => 0) (fun k s hk F g => ?_) (fun s F g => e_c12_office_69 (br_t (by decide) (h s F (fun j hj => by have := g j hj; rw [Nat.zero_add] at this; exact this))))
  refine e_c12_office_69 (br_f (nI_nlt (a := 24) (by omega) (by decide)) ⟨vp_in_nI (by omega) (by decide), fun u hu => ?_⟩)
  rw [nI_clamp (by omega)] at hu
  rw [nI_1]
  exact g u (by rw [Nat.zero_add]; exact hu)
theorem of_40 {Q : Int32 → sT → Prop} {s0 : sT} (h : ∀ s, Fr (XWl 193 0 5) s0 s → (∀ j, j < 5 → rI s 193 j = if j = 1 then 4 else 0) → c12_office_69 (0 : Int32) Q s) : c12_office_40 (0 : Int32) Q s0 := by
  refine fill_loop (W := fun k s => c12_office_40 (nI k) Q s) (a := 193) (off := 0) (N := 5) (g := fun k => if k = 1 then 4 else 0) (fun k s hk F g => ?_) (fun s F g => e_c12_office_40 (br_f (by decide) (h s F (fun j hj => by have := g j hj; rw [Nat.zero_add] at this; exact this))))
  have v : vp_in (nI k) 10 := vp_in_nI (by omega) (by decide)
  have e1 : nI k = (1 : Int32) ↔ k = 1 := nI_eq (b := 1) (by omega) (by decide)
  refine e_c12_office_40 (br_t (nI_lt (b := 5) hk (by decide)) ?_)
  rw [e1, nI_clamp (by omega), nI_1]
  refine br_c (fun q => ⟨v, fun u hu => g u ?_⟩) (fun q => ⟨v, fun u hu => g u ?_⟩)
  · rw [if_pos q, Nat.zero_add]; exact hu
  · rw [if_neg q, Nat.zero_add]; exact hu
/-- the reference begins to read an office -/
theorem r_offIn {b : Nat → Nat} {n : Nat} {Q : Int32 → sT → Prop} {s : sT} (hn : n ≤ 1600) (h1 : rI s 162 1 = nI n) (h163 : tpC s 163 b) (I : IC s) (h : ∀ s' i, Fr XOI s s' → rI s' 162 1 = 0 → RO s' s' b n (skp b n 0, false) i D_0 → c12_finestTold (OFI Q) s') : c12_office Q s := by
  refine e_c12_office (fun u1 g1 u2 g2 u3 g3 u4 g4 u5 g5 u6 g6 u7 g7 => ?_)
  have F7 : Fr XOI s u7 := by
    rw [g7, g6, g5, g4, g3, g2, g1]
    exact fr_wI (fr_wI (fr_wI (fr_wI (fr_wI (fr_wI (fr_wI fr_rf rfl) rfl) rfl) rfl) rfl) rfl) rfl
  have v : ∀ j, rI u7 162 j = if j = 47 then 0 else if j = 6 then -1 else if j = 5 then 0 else if j = 4 then -1 else if j = 2 then 0 else if j = 1 then 0 else if j = 3 then nI n else rI s 162 j := fun j => by
    rw [g7, rI_wI, g6, rI_wI, g5, rI_wI, g4, rI_wI, g3, rI_wI, g2, rI_wI, g1, rI_wI, h1]
    simp only [true_and]
  refine of_40 (fun s1 F1 v1 => of_69 (fun s2 F2 v2 => of_90 (fun s3 F3 v3 => ?_)))
  have e : ∀ j, rI s3 162 j = rI u7 162 j := fun j => by rw [F3.1 _ _ rfl, F2.1 _ _ rfl, F1.1 _ _ rfl]
  have FX : Fr XOI s s3 := fr_tr F7 (fr_tr (fr_mo F1 fun a j q => by have := xwl_f q; exact xoi_t (by omega)) (fr_tr (fr_mo F2 fun a j q => by have := xwl_f q; exact xoi_t (by omega)) (fr_mo F3 fun a j q => by have := xwl_f q; exact xoi_t (by omega))))
  obtain ⟨i, hi⟩ := nI_all (rI s3 162 48)
  refine h s3 i FX (by rw [e, v]; rfl) ⟨fr_rf, ⟨⟨hn, by rw [e, v]; rfl, fun k hk => by rw [FX.1 _ _ (Bool.eq_false_iff.2 (fun y => by have := xoi_f y; omega))]; exact h163 k hk⟩, by rw [e, v]; rfl⟩, ⟨by rw [e, v]; rfl, skp_le (Nat.zero_le _), ⟨0, Nat.zero_le _, by rw [e, v]; rfl, rfl⟩, 0, Nat.zero_le _, by rw [e, v, cV_0]; rfl, ⟨(fun y => by cases y), fun y => by omega⟩⟩, IC_fr FX (fun a j q => ?_) I, hi, 0, Nat.zero_le _, fun j hj => ?_, fun p hp => absurd (show p < 0 from hp) (Nat.not_lt_zero _), fun k hk => ?_, Or.inl ⟨rfl, v3 0 (by decide)⟩, Or.inl ⟨rfl, v3 1 (by decide)⟩, by rw [e, v]; rfl⟩
  · unfold fIC at q
    rw [Bool.eq_false_iff]
    intro y
    have := xoi_f y
    simp only [Bool.or_eq_true, Bool.and_eq_true, Nat.beq_eq, Nat.ble_eq] at q
    omega
  · rw [F3.1 _ _ rfl, F2.1 _ _ rfl, v1 j hj]
    show (if j = 1 then (4 : Int32) else 0) = nI (if j = 1 then 4 else 0)
    split <;> rfl
  · rw [F3.1 _ _ rfl, v2 k hk]
    rfl
theorem foR_out {s u : sT} {w cd c0 : Nat} {al : Nat → Bool} {z : Bool} {c : Bool × List Nat} (h : foR s w cd c) (hI : frmI al z c0 c) (hc : cd ≤ 1600) (e : rI u 197 (2 + w) = rI s 197 w ∧ rI u 198 (2 + w) = rI s 198 w) (e9 : ∀ k, k < cd → rI u 199 (1600 + k) = rI s 199 k) : (rI u 197 (2 + w) = (-1 : Int32) ∧ c.2 = [c0]) ∨ ∃ frm, rI u 197 (2 + w) = nI frm ∧ rI u 198 (2 + w) = nI (frm + c.2.length) ∧ frm + c.2.length ≤ 1600 ∧ ∀ k (h : k < c.2.length), rI u 199 (1600 + frm + k) = nI c.2[k] := by
  rcases h with ⟨a, b⟩ | ⟨a, frm, b1, b2, b3, b4⟩
  · exact Or.inl ⟨by rw [e.1]; exact b, hI.2.1 a⟩
  · refine Or.inr ⟨frm, by rw [e.1]; exact b1, by rw [e.2]; exact b2, by omega, fun k hk => ?_⟩
    rw [Nat.add_assoc, e9 _ (by omega)]
    exact b4 k hk
