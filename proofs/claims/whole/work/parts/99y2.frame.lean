-- what an office writes
def XA0 (a j : Nat) : Bool := (Nat.beq a 0 && (Nat.beq j 16 || Nat.beq j 17)) || ((Nat.beq a 2 && Nat.beq j 1) || ((Nat.beq a 162 && (Nat.beq j 7 || Nat.beq j 8)) || (Nat.beq a 35 && (Nat.beq j 3 || Nat.beq j 6))))
theorem xa0_f {a j : Nat} (h : XA0 a j = true) : (a = 0 ∧ (j = 16 ∨ j = 17)) ∨ (a = 2 ∧ j = 1) ∨ (a = 162 ∧ (j = 7 ∨ j = 8)) ∨ (a = 35 ∧ (j = 3 ∨ j = 6)) := by
  unfold XA0 at h
  simp only [Bool.or_eq_true, Bool.and_eq_true, Nat.beq_eq] at h
  exact h
theorem xco_f {a j : Nat} (h : XCO a j = true) : a = 4 ∨ a = 5 ∨ (7 ≤ a ∧ a ≤ 16) := by
  unfold XCO at h
  simp only [Bool.or_eq_true, Bool.and_eq_true, Nat.beq_eq, Nat.ble_eq] at h
  exact h
theorem xbg_f {a j : Nat} (h : XBG a j = true) : (38 ≤ a ∧ a ≤ 41) ∨ (a = 43 ∧ (j = 1 ∨ j = 2)) ∨ (a = 147 ∧ j = 7) := by
  unfold XBG at h
  simp only [Bool.or_eq_true, Bool.and_eq_true, Nat.beq_eq, Nat.ble_eq] at h
  exact h
theorem xoc_f {a j : Nat} (h : XOC a j = true) : a = 32 ∨ a = 33 ∨ a = 34 ∨ a = 37 ∨ (a = 35 ∧ (j = 3 ∨ j = 6)) := by
  unfold XOC at h
  simp only [Bool.or_eq_true, Bool.and_eq_true, Nat.beq_eq] at h
  exact h
theorem xtk_f {a j : Nat} (h : XTK a j = true) : 21 ≤ a ∧ a ≤ 30 := by
  unfold XTK at h
  simp only [Bool.and_eq_true, Nat.ble_eq] at h
  exact h
def XAL (a j : Nat) : Bool := XA0 a j || (XCO a j || (XOI a j || (XRO a j || (XSR a j || (XBG a j || (XOC a j || XTK a j))))))
theorem xal_f {a j : Nat} (h : XAL a j = true) : XA0 a j = true ∨ XCO a j = true ∨ XOI a j = true ∨ XRO a j = true ∨ XSR a j = true ∨ XBG a j = true ∨ XOC a j = true ∨ XTK a j = true := by
  unfold XAL at h
  simp only [Bool.or_eq_true] at h
  exact h
theorem xal_t {a j : Nat} (h : XA0 a j = true ∨ XCO a j = true ∨ XOI a j = true ∨ XRO a j = true ∨ XSR a j = true ∨ XBG a j = true ∨ XOC a j = true ∨ XTK a j = true) : XAL a j = true := by
  unfold XAL
  simp only [Bool.or_eq_true]
  exact h
/-- off all that an office writes -/
theorem off_AL {f : Nat → Nat → Bool} {p : Nat → Nat → Prop} (hf : ∀ a j, f a j = true → p a j) (h0 : ∀ a j, p a j → ((a = 0 ∧ (j = 16 ∨ j = 17)) ∨ (a = 2 ∧ j = 1) ∨ (a = 162 ∧ (j = 7 ∨ j = 8)) ∨ (a = 35 ∧ (j = 3 ∨ j = 6))) → False) (h1 : ∀ a j, p a j → (a = 4 ∨ a = 5 ∨ (7 ≤ a ∧ a ≤ 16)) → False) (h2 : ∀ a j, p a j → ((a = 162 ∧ ((1 ≤ j ∧ j ≤ 6) ∨ j = 47)) ∨ (a = 193 ∧ j < 5) ∨ a = 196 ∨ (a = 197 ∧ j < 2)) → False) (h3 : ∀ a j, p a j → ((a = 162 ∧ (j = 2 ∨ j = 4 ∨ j = 5 ∨ j = 6 ∨ j = 10 ∨ j = 39 ∨ j = 47 ∨ j = 48 ∨ j = 50 ∨ (101 ≤ j ∧ j ≤ 105))) ∨ (a = 193 ∧ j < 5) ∨ (a = 194 ∧ j < 6) ∨ (a = 195 ∧ j < 12) ∨ a = 196 ∨ (a = 197 ∧ j < 2) ∨ (a = 198 ∧ j < 2) ∨ (a = 199 ∧ j < 1600) ∨ a = 237 ∨ a = 238) → False) (h4 : ∀ a j, p a j → ((a = 162 ∧ (j = 49 ∨ j = 53 ∨ j = 69 ∨ j = 73)) ∨ (a = 193 ∧ 5 ≤ j) ∨ (a = 194 ∧ 6 ≤ j) ∨ (a = 195 ∧ 12 ≤ j) ∨ ((a = 197 ∨ a = 198) ∧ 2 ≤ j) ∨ (a = 199 ∧ 1600 ≤ j) ∨ (200 ≤ a ∧ a ≤ 206)) → False) (h5 : ∀ a j, p a j → ((38 ≤ a ∧ a ≤ 41) ∨ (a = 43 ∧ (j = 1 ∨ j = 2)) ∨ (a = 147 ∧ j = 7)) → False) (h6 : ∀ a j, p a j → (a = 32 ∨ a = 33 ∨ a = 34 ∨ a = 37 ∨ (a = 35 ∧ (j = 3 ∨ j = 6))) → False) (h7 : ∀ a j, p a j → (21 ≤ a ∧ a ≤ 30) → False) : off f XAL := fun a j q => Bool.eq_false_iff.2 (fun y => by
  have q' := hf a j q
  rcases xal_f y with z | z | z | z | z | z | z | z
  · exact h0 a j q' (xa0_f z)
  · exact h1 a j q' (xco_f z)
  · exact h2 a j q' (xoi_f z)
  · exact h3 a j q' (xro_f z)
  · exact h4 a j q' (xsr_f z)
  · exact h5 a j q' (xbg_f z)
  · exact h6 a j q' (xoc_f z)
  · exact h7 a j q' (xtk_f z))
theorem xal_IC : off fIC XAL := off_AL (p := fun a _ => a = 36 ∨ (165 ≤ a ∧ a ≤ 192) ∨ (213 ≤ a ∧ a ≤ 236)) (fun a j q => by
  unfold fIC at q
  simp only [Bool.or_eq_true, Bool.and_eq_true, Nat.beq_eq, Nat.ble_eq] at q
  exact q) (fun a j p q => by omega) (fun a j p q => by omega) (fun a j p q => by omega) (fun a j p q => by omega) (fun a j p q => by omega) (fun a j p q => by omega) (fun a j p q => by omega) (fun a j p q => by omega)
theorem xal_IP : off fIP XAL := off_AL (p := fun a j => (a = 0 ∧ j = 14) ∨ a = 161 ∨ (a = 162 ∧ j = 111) ∨ a = 240) (fun a j q => by
  unfold fIP at q
  simp only [Bool.or_eq_true, Bool.and_eq_true, Nat.beq_eq] at q
  exact q) (fun a j p q => by omega) (fun a j p q => by omega) (fun a j p q => by omega) (fun a j p q => by omega) (fun a j p q => by omega) (fun a j p q => by omega) (fun a j p q => by omega) (fun a j p q => by omega)
theorem xal_IS : off fIS XAL := off_AL (p := fun a j => (a = 0 ∧ j = 15) ∨ (a = 162 ∧ j = 75)) (fun a j q => by
  unfold fIS at q
  simp only [Bool.or_eq_true, Bool.and_eq_true, Nat.beq_eq] at q
  exact q) (fun a j p q => by omega) (fun a j p q => by omega) (fun a j p q => by omega) (fun a j p q => by omega) (fun a j p q => by omega) (fun a j p q => by omega) (fun a j p q => by omega) (fun a j p q => by omega)
theorem xal_IR : off fIR XAL := off_AL (p := fun a _ => a = 1 ∨ a = 164) (fun a j q => by
  unfold fIR at q
  simp only [Bool.or_eq_true, Nat.beq_eq] at q
  exact q) (fun a j p q => by omega) (fun a j p q => by omega) (fun a j p q => by omega) (fun a j p q => by omega) (fun a j p q => by omega) (fun a j p q => by omega) (fun a j p q => by omega) (fun a j p q => by omega)
theorem xal_z : off (fun a j => (Nat.beq a 3 || (Nat.beq a 163 || (Nat.beq a 148 || Nat.beq a 152))) || (Nat.beq a 162 && (Nat.beq j 64 || Nat.beq j 74))) XAL := off_AL (p := fun a j => (a = 3 ∨ a = 163 ∨ a = 148 ∨ a = 152) ∨ (a = 162 ∧ (j = 64 ∨ j = 74))) (fun a j q => by
  simp only [Bool.or_eq_true, Bool.and_eq_true, Nat.beq_eq] at q
  exact q) (fun a j p q => by omega) (fun a j p q => by omega) (fun a j p q => by omega) (fun a j p q => by omega) (fun a j p q => by omega) (fun a j p q => by omega) (fun a j p q => by omega) (fun a j p q => by omega)
/-- when it is refused -/
def XO0 (a j : Nat) : Bool := (Nat.beq a 0 && (Nat.beq j 16 || Nat.beq j 17)) || ((Nat.beq a 1 || Nat.beq a 164) || ((Nat.beq a 2 && Nat.beq j 1) || (Nat.beq a 162 && (Nat.beq j 7 || Nat.beq j 8))))
theorem xo0_f {a j : Nat} (h : XO0 a j = true) : (a = 0 ∧ (j = 16 ∨ j = 17)) ∨ (a = 1 ∨ a = 164) ∨ (a = 2 ∧ j = 1) ∨ (a = 162 ∧ (j = 7 ∨ j = 8)) := by
  unfold XO0 at h
  simp only [Bool.or_eq_true, Bool.and_eq_true, Nat.beq_eq] at h
  exact h
def XOX (a j : Nat) : Bool := XO0 a j || (XCO a j || (XOI a j || XRO a j))
theorem xox_f {a j : Nat} (h : XOX a j = true) : XO0 a j = true ∨ XCO a j = true ∨ XOI a j = true ∨ XRO a j = true := by
  unfold XOX at h
  simp only [Bool.or_eq_true] at h
  exact h
theorem xox_t {a j : Nat} (h : XO0 a j = true ∨ XCO a j = true ∨ XOI a j = true ∨ XRO a j = true) : XOX a j = true := by
  unfold XOX
  simp only [Bool.or_eq_true]
  exact h
theorem off_OX {f : Nat → Nat → Bool} {p : Nat → Nat → Prop} (hf : ∀ a j, f a j = true → p a j) (h0 : ∀ a j, p a j → ((a = 0 ∧ (j = 16 ∨ j = 17)) ∨ (a = 1 ∨ a = 164) ∨ (a = 2 ∧ j = 1) ∨ (a = 162 ∧ (j = 7 ∨ j = 8))) → False) (h1 : ∀ a j, p a j → (a = 4 ∨ a = 5 ∨ (7 ≤ a ∧ a ≤ 16)) → False) (h2 : ∀ a j, p a j → ((a = 162 ∧ ((1 ≤ j ∧ j ≤ 6) ∨ j = 47)) ∨ (a = 193 ∧ j < 5) ∨ a = 196 ∨ (a = 197 ∧ j < 2)) → False) (h3 : ∀ a j, p a j → ((a = 162 ∧ (j = 2 ∨ j = 4 ∨ j = 5 ∨ j = 6 ∨ j = 10 ∨ j = 39 ∨ j = 47 ∨ j = 48 ∨ j = 50 ∨ (101 ≤ j ∧ j ≤ 105))) ∨ (a = 193 ∧ j < 5) ∨ (a = 194 ∧ j < 6) ∨ (a = 195 ∧ j < 12) ∨ a = 196 ∨ (a = 197 ∧ j < 2) ∨ (a = 198 ∧ j < 2) ∨ (a = 199 ∧ j < 1600) ∨ a = 237 ∨ a = 238) → False) : off f XOX := fun a j q => Bool.eq_false_iff.2 (fun y => by
  have q' := hf a j q
  rcases xox_f y with z | z | z | z
  · exact h0 a j q' (xo0_f z)
  · exact h1 a j q' (xco_f z)
  · exact h2 a j q' (xoi_f z)
  · exact h3 a j q' (xro_f z))
theorem IA_X {s t : sT} {fin most ppl bk mi : Nat} {L : Nat → List Nat} {lc cc : List Nat} {w : Nat → Nat} {κ : kT} (I : IA s fin most ppl bk mi L lc cc w κ) (h : FO XOX s t) (hT : IT t) (hF : IF t) (hR : IR t) : Inv t := by
  obtain ⟨⟨c1, c2, c3, c4, c5, c6⟩, i1, i2, i3, i4, i5⟩ := I
  have F := FO_fr h
  refine Inv_wO (o := s.2.2) ⟨fin, most, ppl, bk, mi, L, lc, cc, w, κ, ⟨IC_fr F (off_OX (p := fun a _ => a = 36 ∨ (165 ≤ a ∧ a ≤ 192) ∨ (213 ≤ a ∧ a ≤ 236)) (fun a j q => ?_) (fun a j p q => by omega) (fun a j p q => by omega) (fun a j p q => by omega) (fun a j p q => by omega)) c1, hT, hR, hF, IP_fr F (off_OX (p := fun a j => (a = 0 ∧ j = 14) ∨ a = 161 ∨ (a = 162 ∧ j = 111) ∨ a = 240) (fun a j q => ?_) (fun a j p q => by omega) (fun a j p q => by omega) (fun a j p q => by omega) (fun a j p q => by omega)) c5, IS_fr F (off_OX (p := fun a j => (a = 0 ∧ j = 15) ∨ (a = 162 ∧ j = 75)) (fun a j q => ?_) (fun a j p q => by omega) (fun a j p q => by omega) (fun a j p q => by omega) (fun a j p q => by omega)) c6⟩, IO_fr F (off_OX (p := fun a j => (21 ≤ a ∧ a ≤ 34 ∧ ¬ a = 28 ∧ ¬ a = 31) ∨ (a = 162 ∧ j = 49) ∨ (a = 193 ∧ 5 ≤ j) ∨ (a = 194 ∧ 6 ≤ j) ∨ (a = 195 ∧ 12 ≤ j) ∨ (a = 197 ∧ 2 ≤ j) ∨ (a = 198 ∧ 2 ≤ j) ∨ (a = 199 ∧ 1600 ≤ j) ∨ (204 ≤ a ∧ a ≤ 206)) (fun a j q => ?_) (fun a j p q => by omega) (fun a j p q => by omega) (fun a j p q => by omega) (fun a j p q => by omega)) i1, IN_fr F (off_OX (p := fun a j => (38 ≤ a ∧ a ≤ 42) ∨ a = 200 ∨ (a = 162 ∧ j = 64) ∨ (a = 148 ∧ 5 ≤ j) ∨ a = 152) (fun a j q => ?_) (fun a j p q => by omega) (fun a j p q => by omega) (fun a j p q => by omega) (fun a j p q => by omega)) i2, IH_fr F (off_OX (p := fun a j => (43 ≤ a ∧ a ≤ 144) ∨ a = 212 ∨ (a = 162 ∧ (j = 73 ∨ j = 74))) (fun a j q => ?_) (fun a j p q => by omega) (fun a j p q => by omega) (fun a j p q => by omega) (fun a j p q => by omega)) i3, IX_fr F (off_OX (p := fun a j => (a = 147 ∧ j = 7) ∨ a = 155 ∨ (a = 162 ∧ j = 69) ∨ a = 210) (fun a j q => ?_) (fun a j p q => by omega) (fun a j p q => by omega) (fun a j p q => by omega) (fun a j p q => by omega)) i4, IK_fr F (off_OX (p := fun a j => (a = 35 ∧ (j = 3 ∨ j = 6)) ∨ a = 37) (fun a j q => ?_) (fun a j p q => by omega) (fun a j p q => by omega) (fun a j p q => by omega) (fun a j p q => by omega)) i5⟩
  · unfold fIC at q
    simp only [Bool.or_eq_true, Bool.and_eq_true, Nat.beq_eq, Nat.ble_eq] at q
    exact q
  · unfold fIP at q
    simp only [Bool.or_eq_true, Bool.and_eq_true, Nat.beq_eq] at q
    exact q
  · unfold fIS at q
    simp only [Bool.or_eq_true, Bool.and_eq_true, Nat.beq_eq] at q
    exact q
  · unfold fIO at q
    simp only [Bool.or_eq_true, Bool.and_eq_true, Nat.beq_eq, Nat.ble_eq, Bool.not_eq_true', ← Bool.not_eq_true] at q
    exact q
  · unfold fIN at q
    simp only [Bool.or_eq_true, Bool.and_eq_true, Nat.beq_eq, Nat.ble_eq] at q
    exact q
  · unfold fIH at q
    simp only [Bool.or_eq_true, Bool.and_eq_true, Nat.beq_eq, Nat.ble_eq] at q
    exact q
  · unfold fIX at q
    simp only [Bool.or_eq_true, Bool.and_eq_true, Nat.beq_eq] at q
    exact q
  · unfold fIK at q
    simp only [Bool.or_eq_true, Bool.and_eq_true, Nat.beq_eq] at q
    exact q
