-- what holds between two calls
def wRows : List (Nat × List Nat) := [(165, [102, 105, 110, 101, 115, 116]), (166, [109, 111, 115, 116]), (167, [112, 101, 114, 115, 111, 110]), (168, [100, 117, 101]), (169, [111, 102]), (170, [104, 97, 118, 101]), (171, [98, 121]), (172, [98, 97, 107, 101, 115]), (173, [99, 111, 115, 116, 115]), (174, [108, 105, 107, 101, 115]), (175, [109, 105, 99, 101]), (176, [115, 105, 122, 101]), (177, [115, 116, 111, 99, 107]), (178, [112, 108, 97, 99, 101]), (179, [100, 97, 121]), (180, [104, 117, 110, 103, 101, 114]), (181, [110, 117, 109, 98, 101, 114]), (182, [116, 111, 112]), (183, [98, 111, 116, 116, 111, 109]), (184, [119, 97, 121, 115]), (185, [104, 97, 100]), (186, [102, 105, 116, 115]), (187, [111, 114]), (188, [97, 110, 100]), (189, [110, 111, 116]), (190, [97, 108, 108]), (191, [109, 105, 110]), (192, [109, 97, 120]), (213, [102, 105, 114, 115, 116]), (214, [108, 97, 115, 116]), (215, [111, 102, 116, 101, 110]), (216, [116, 111, 116, 97, 108]), (217, [109, 111, 115, 116]), (218, [108, 101, 97, 115, 116]), (219, [110, 111, 116]), (220, [97, 110, 100]), (221, [111, 114]), (222, [97, 108, 108]), (223, [109, 105, 110]), (224, [109, 97, 120]), (225, [115, 105, 122, 101]), (226, [115, 116, 111, 99, 107]), (227, [100, 97, 121]), (228, [112, 108, 97, 99, 101]), (229, [104, 117, 110, 103, 101, 114]), (230, [110, 117, 109, 98, 101, 114]), (231, [116, 111, 112]), (232, [98, 111, 116, 116, 111, 109]), (233, [119, 97, 121, 115]), (234, [104, 97, 100]), (235, [115, 116, 111, 99, 107]), (236, [102, 105, 116, 115])]
def IC (s : sT) : Prop := (∀ n, 1 ≤ n → n ≤ 24 → rJ s 36 n = lN (5354228880 / n)) ∧ ∀ q, q ∈ wRows → ∀ k (h : k < q.2.length), rI s q.1 k = nI q.2[k]
def fIC (a _ : Nat) : Bool := Nat.beq a 36 || ((Nat.ble 165 a && Nat.ble a 192) || (Nat.ble 213 a && Nat.ble a 236))
def IT (s : sT) : Prop := ∃ n, n ≤ 1600 ∧ rI s 2 1 = nI n ∧ rI s 162 1 = nI n ∧ ∀ k, k < 1600 → ∃ b, b < 256 ∧ rI s 3 k = nI b ∧ rI s 163 k = nI b
def fIT (a j : Nat) : Bool := (Nat.beq a 2 && Nat.beq j 1) || (Nat.beq a 3 || ((Nat.beq a 162 && Nat.beq j 1) || Nat.beq a 163))
def IR (s : sT) : Prop := ∀ k, k < 6 → rI s 1 k = rI s 164 k
def fIR (a _ : Nat) : Bool := Nat.beq a 1 || Nat.beq a 164
def IF (s : sT) : Prop := rI s 0 16 = rI s 162 7 ∧ rI s 0 17 = rI s 162 8
def fIF (a j : Nat) : Bool := (Nat.beq a 0 && (Nat.beq j 16 || Nat.beq j 17)) || (Nat.beq a 162 && (Nat.beq j 7 || Nat.beq j 8))
def IP (s : sT) : Prop := ∃ n, n ≤ 69 ∧ rI s 0 14 = nI n ∧ rI s 162 111 = nI n ∧ ∀ k, k < n → rI s 161 k = rI s 240 k
def fIP (a j : Nat) : Bool := (Nat.beq a 0 && Nat.beq j 14) || (Nat.beq a 161 || ((Nat.beq a 162 && Nat.beq j 111) || Nat.beq a 240))
def IS (s : sT) : Prop := ∃ n, n < 2147483648 ∧ rI s 0 15 = nI n ∧ rJ s 162 75 = lN n
def fIS (a j : Nat) : Bool := (Nat.beq a 0 && Nat.beq j 15) || (Nat.beq a 162 && Nat.beq j 75)
/-- costs -/
def alC (c : Nat) : Bool := Nat.beq c 40 || (Nat.beq c 41 || (Nat.beq c 42 || Nat.beq c 43))
def cosC (s : sT) (cc : List Nat) : Prop := cc.length ≤ 1600 ∧ rI s 26 2 = nI cc.length ∧ (∀ k (h : k < cc.length), rI s 27 k = nI (trc cc[k])) ∧ tyL alC cc [] = some [false]
def cosR (s : sT) (cc : List Nat) : Prop := (rI s 197 2 = (-1 : Int32) ∧ cc = [40]) ∨ ∃ frm, rI s 197 2 = nI frm ∧ rI s 198 2 = nI (frm + cc.length) ∧ frm + cc.length ≤ 1600 ∧ ∀ k (h : k < cc.length), rI s 199 (1600 + frm + k) = nI cc[k]
/-- a name: n letters, as a number V of n places in the reference, of six in the class -/
def nmR (s : sT) (a j b k : Nat) : Prop := ∃ V n, 1 ≤ n ∧ n ≤ 6 ∧ 27 ^ (n - 1) ≤ V ∧ V < 27 ^ n ∧ rI s a j = nI (V * 27 ^ (6 - n)) ∧ rJ s b k = lN V
def perR (s : sT) (fin p : Nat) : Prop := nmR s 22 p 194 (6 + p) ∧ (∃ a b, 1 ≤ a ∧ a ≤ 24 ∧ 1 ≤ b ∧ b ≤ 24 ∧ rI s 23 p = nI a ∧ rI s 195 (12 + 2 * p) = nI a ∧ rI s 24 p = nI b ∧ rI s 195 (13 + 2 * p) = nI b) ∧ ∃ F, F < 2 ^ fin ∧ rI s 34 p = nI F ∧ rI s 206 p = nI F
def IO (s : sT) (fin most ppl bk mi : Nat) (L : Nat → List Nat) (lc cc : List Nat) : Prop :=
  ((2 ≤ fin ∧ rI s 162 49 = 1 ∧ rI s 193 6 = nI most) ∨ (fin = 0 ∧ ppl = 0 ∧ most = 4 ∧ rI s 162 49 = 0)) ∧ 1 ≤ most ∧ most ≤ 6 ∧ mi ≤ 100 ∧ rI s 21 1 = nI most ∧ rI s 21 4 = nI mi ∧ rI s 193 9 = nI mi ∧ OCc s fin ppl bk L lc ∧ OCr s fin ppl bk L lc ∧ (0 < fin → cosC s cc) ∧ cosR s cc ∧ ∀ p, p < ppl → perR s fin p
def fIO (a j : Nat) : Bool := (Nat.ble 21 a && (Nat.ble a 34 && (!(Nat.beq a 28) && !(Nat.beq a 31)))) || ((Nat.beq a 162 && Nat.beq j 49) || ((Nat.beq a 193 && Nat.ble 5 j) || ((Nat.beq a 194 && Nat.ble 6 j) || ((Nat.beq a 195 && Nat.ble 12 j) || ((Nat.beq a 197 && Nat.ble 2 j) || ((Nat.beq a 198 && Nat.ble 2 j) || ((Nat.beq a 199 && Nat.ble 1600 j) || (Nat.ble 204 a && Nat.ble a 206))))))))
/-- numbers of an office -/
def wV (fin ppl : Nat) (w : Nat → Nat) : Prop := (∀ n, w n ≤ 999) ∧ (∀ n, fin < n → n ≤ 24 → w n = 0) ∧ ∀ p, ppl ≤ p → p < 6 → w (25 + 2 * p) = 0 ∧ w (26 + 2 * p) = 0
theorem wV_M {fin ppl : Nat} {w : Nat → Nat} (h : wV fin ppl w) : wM w := ⟨by have := h.1 0; omega, fun n _ => h.1 n⟩
def IN (s : sT) (fin ppl : Nat) (w : Nat → Nat) (κ : kT) : Prop := StW s 38 w ∧ NwW s w ∧ wV fin ppl w ∧ KpC s 38 κ ∧ KpR s κ ∧ rI s 162 64 = 0 ∧ ∃ κ', KpC s 148 κ'
def fIN (a j : Nat) : Bool := (Nat.ble 38 a && Nat.ble a 42) || (Nat.beq a 200 || ((Nat.beq a 162 && Nat.beq j 64) || ((Nat.beq a 148 && Nat.ble 5 j) || Nat.beq a 152)))
/-- a state that was -/
def hPr (s : sT) (fin ppl t off : Nat) : Prop := ∃ (w : Nat → Nat) (κ : kT), wV fin ppl w ∧ StW s t w ∧ KpC s t κ ∧ (∀ k, k < 37 → rI s 212 (off + k) = nI (w k)) ∧ rI s 212 (off + 37) = nI κ.1 ∧ ∀ k, k < κ.1 → ∀ j, j < 3 → rI s 212 (off + (38 + 3 * k + j)) = κ.2 k j
def IH (s : sT) (fin ppl : Nat) : Prop := ∃ c hf nw, c ≤ 20 ∧ hf < 20 ∧ nw < 20 ∧ rI s 43 1 = nI hf ∧ rI s 43 2 = nI c ∧ rI s 162 73 = nI c ∧ rI s 162 74 = nI nw ∧ ∀ k, k < c → hPr s fin ppl (45 + 5 * ((hf + k) % 20)) (158 * ((nw + 21 + k - c) % 20))
def fIH (a j : Nat) : Bool := (Nat.ble 43 a && Nat.ble a 144) || (Nat.beq a 212 || (Nat.beq a 162 && (Nat.beq j 73 || Nat.beq j 74)))
def IX (s : sT) (ppl : Nat) : Prop := ∃ c, c ≤ 16 ∧ rI s 147 7 = nI c ∧ rI s 162 69 = nI c ∧ ∀ r, r < c → ∃ d p b, d ≤ 30 ∧ p < ppl ∧ b ≤ 1 ∧ rI s 155 (3 * r) = nI d ∧ rI s 155 (3 * r + 1) = nI p ∧ rI s 155 (3 * r + 2) = nI b ∧ rI s 210 (3 * r) = nI d ∧ rI s 210 (3 * r + 1) = nI p ∧ rI s 210 (3 * r + 2) = nI b
def fIX (a j : Nat) : Bool := (Nat.beq a 147 && Nat.beq j 7) || (Nat.beq a 155 || ((Nat.beq a 162 && Nat.beq j 69) || Nat.beq a 210))
/-- the part of a size -/
def prt (n : Nat) : Nat := 5354228880 / n
/-- the writings of a share in their order: k sizes from n on are left, room for so many, what is left of the share, those taken -/
def wsL (fin : Nat) : Nat → Nat → Nat → Nat → List Nat
  | 0, _, _, _ => []
  | k + 1, room, rest, set =>
    if prt (fin - k) * room < rest then []
    else if prt (fin - k) = rest then (set ||| 2 ^ (fin - k - 1)) :: wsL fin k room rest set
    else if prt (fin - k) < rest ∧ 1 < room then wsL fin k (room - 1) (rest - prt (fin - k)) (set ||| 2 ^ (fin - k - 1)) ++ wsL fin k room rest set
    else wsL fin k room rest set
def wrs (fin most U : Nat) : List Nat := wsL fin fin most U 0
/-- what the finder knows -/
def IK (s : sT) (fin most : Nat) : Prop := ((rJ s 35 6).toInt ≤ 0 ∧ rI s 35 3 = 0) ∨ ∃ U, 0 < U ∧ U < 2 ^ 45 ∧ rJ s 35 6 = lN U ∧ rI s 35 3 = nI (wrs fin most U).length ∧ ∀ k (h : k < (wrs fin most U).length), rI s 37 k = nI (wrs fin most U)[k]
def fIK (a j : Nat) : Bool := (Nat.beq a 35 && (Nat.beq j 3 || Nat.beq j 6)) || Nat.beq a 37
def Inv (s : sT) : Prop := ∃ (fin most ppl bk mi : Nat) (L : Nat → List Nat) (lc cc : List Nat) (w : Nat → Nat) (κ : kT), (IC s ∧ IT s ∧ IR s ∧ IF s ∧ IP s ∧ IS s) ∧ IO s fin most ppl bk mi L lc cc ∧ IN s fin ppl w κ ∧ IH s fin ppl ∧ IX s ppl ∧ IK s fin most
-- frames
def off (f X : Nat → Nat → Bool) : Prop := ∀ a j, f a j = true → X a j = false
theorem IC_fr {X : Nat → Nat → Bool} {s t : sT} (h : Fr X s t) (hx : off fIC X) (I : IC s) : IC t := by
  refine ⟨fun n h1 h2 => ?_, fun q hq k hk => ?_⟩
  · rw [h.2.1 _ _ (hx _ _ rfl)]; exact I.1 n h1 h2
  · have hr : ∀ q, q ∈ wRows → ∀ j, fIC q.1 j = true := by
      intro q hq j
      exact (by decide : ∀ q, q ∈ wRows → (Nat.beq q.1 36 || ((Nat.ble 165 q.1 && Nat.ble q.1 192) || (Nat.ble 213 q.1 && Nat.ble q.1 236))) = true) q hq
    rw [h.1 _ _ (hx _ _ (hr q hq k))]; exact I.2 q hq k hk
theorem IT_fr {X : Nat → Nat → Bool} {s t : sT} (h : Fr X s t) (hx : off fIT X) (I : IT s) : IT t := by
  obtain ⟨n, h1, h2, h3, h4⟩ := I
  refine ⟨n, h1, by rw [h.1 _ _ (hx _ _ rfl)]; exact h2, by rw [h.1 _ _ (hx _ _ rfl)]; exact h3, fun k hk => ?_⟩
  rw [h.1 _ _ (hx _ _ rfl), h.1 _ _ (hx _ _ rfl)]
  exact h4 k hk
theorem IR_fr {X : Nat → Nat → Bool} {s t : sT} (h : Fr X s t) (hx : off fIR X) (I : IR s) : IR t := fun k hk => by
  rw [h.1 _ _ (hx _ _ rfl), h.1 _ _ (hx _ _ rfl)]
  exact I k hk
theorem IF_fr {X : Nat → Nat → Bool} {s t : sT} (h : Fr X s t) (hx : off fIF X) (I : IF s) : IF t := by
  refine ⟨?_, ?_⟩
  · rw [h.1 _ _ (hx _ _ rfl), h.1 _ _ (hx _ _ rfl)]; exact I.1
  · rw [h.1 _ _ (hx _ _ rfl), h.1 _ _ (hx _ _ rfl)]; exact I.2
theorem IP_fr {X : Nat → Nat → Bool} {s t : sT} (h : Fr X s t) (hx : off fIP X) (I : IP s) : IP t := by
  obtain ⟨n, h1, h2, h3, h4⟩ := I
  refine ⟨n, h1, by rw [h.1 _ _ (hx _ _ rfl)]; exact h2, by rw [h.1 _ _ (hx _ _ rfl)]; exact h3, fun k hk => ?_⟩
  rw [h.1 _ _ (hx _ _ rfl), h.1 _ _ (hx _ _ rfl)]
  exact h4 k hk
theorem IS_fr {X : Nat → Nat → Bool} {s t : sT} (h : Fr X s t) (hx : off fIS X) (I : IS s) : IS t := by
  obtain ⟨n, h1, h2, h3⟩ := I
  exact ⟨n, h1, by rw [h.1 _ _ (hx _ _ rfl)]; exact h2, by rw [h.2.1 _ _ (hx _ _ rfl)]; exact h3⟩
theorem fo_a {a j : Nat} (h : (21 ≤ a ∧ a ≤ 34 ∧ a ≠ 28 ∧ a ≠ 31) ∨ (a = 162 ∧ j = 49) ∨ (a = 193 ∧ 5 ≤ j) ∨ (a = 194 ∧ 6 ≤ j) ∨ (a = 195 ∧ 12 ≤ j) ∨ (a = 197 ∧ 2 ≤ j) ∨ (a = 198 ∧ 2 ≤ j) ∨ (a = 199 ∧ 1600 ≤ j) ∨ (204 ≤ a ∧ a ≤ 206)) : fIO a j = true := by
  unfold fIO
  simp only [Bool.or_eq_true, Bool.and_eq_true, Nat.beq_eq, Nat.ble_eq, Bool.not_eq_true', ← Bool.not_eq_true]
  omega
theorem IO_fr {X : Nat → Nat → Bool} {s t : sT} {fin most ppl bk mi : Nat} {L : Nat → List Nat} {lc cc : List Nat} (h : Fr X s t) (hx : off fIO X) (I : IO s fin most ppl bk mi L lc cc) : IO t fin most ppl bk mi L lc cc := by
  have g : ∀ a j, ((21 ≤ a ∧ a ≤ 34 ∧ a ≠ 28 ∧ a ≠ 31) ∨ (a = 162 ∧ j = 49) ∨ (a = 193 ∧ 5 ≤ j) ∨ (a = 194 ∧ 6 ≤ j) ∨ (a = 195 ∧ 12 ≤ j) ∨ (a = 197 ∧ 2 ≤ j) ∨ (a = 198 ∧ 2 ≤ j) ∨ (a = 199 ∧ 1600 ≤ j) ∨ (204 ≤ a ∧ a ≤ 206)) → rI t a j = rI s a j := fun a j q => h.1 a j (hx a j (fo_a q))
  have gJ : ∀ j, 6 ≤ j → rJ t 194 j = rJ s 194 j := fun j q => h.2.1 _ _ (hx _ _ (fo_a (by omega)))
  obtain ⟨i1, i2, i3, i4, i5, i6, i7, i8, i9, i10, i11, i12⟩ := I
  refine ⟨?_, i2, i3, i4, by rw [g _ _ (by omega)]; exact i5, by rw [g _ _ (by omega)]; exact i6, by rw [g _ _ (by omega)]; exact i7, ?_, ?_, ?_, ?_, ?_⟩
  · rcases i1 with ⟨a, b, c⟩ | ⟨a, b, c, d⟩
    · exact Or.inl ⟨a, by rw [g _ _ (by omega)]; exact b, by rw [g _ _ (by omega)]; exact c⟩
    · exact Or.inr ⟨a, b, c, by rw [g _ _ (by omega)]; exact d⟩
  · obtain ⟨c1, c2, c3, c4, c5, c6, c7, c8⟩ := i8
    refine ⟨c1, c2, c3, by rw [g _ _ (by omega)]; exact c4, by rw [g _ _ (by omega)]; exact c5, by rw [g _ _ (by omega)]; exact c6, fun q => ?_, fun p hp => ?_⟩
    · obtain ⟨d1, d2, d3, d4⟩ := c7 q
      exact ⟨d1, by rw [g _ _ (by omega)]; exact d2, fun k hk => by rw [g _ _ (by omega)]; exact d3 k hk, d4⟩
    obtain ⟨⟨e1, e2, e3, e4, e5⟩, e6⟩ := c8 p hp
    exact ⟨⟨e1, e2, by rw [g _ _ (by omega)]; exact e3, fun k hk => by rw [g _ _ (by omega)]; exact e4 k hk, e5⟩, e6⟩
  · obtain ⟨c1, c2, c3, c4, c5, c6, ⟨d1, d2, d3⟩, c8⟩ := i9
    refine ⟨c1, c2, c3, by rw [g _ _ (by omega)]; exact c4, by rw [g _ _ (by omega)]; exact c5, by rw [g _ _ (by omega)]; exact c6, ⟨d1, d2, ?_⟩, fun p hp => ?_⟩
    · rcases d3 with ⟨a, b⟩ | ⟨frm, a, b, c, d⟩
      · exact Or.inl ⟨by rw [g _ _ (by omega)]; exact a, b⟩
      · exact Or.inr ⟨frm, by rw [g _ _ (by omega)]; exact a, by rw [g _ _ (by omega)]; exact b, c, fun k hk => by rw [g _ _ (by omega)]; exact d k hk⟩
    · obtain ⟨⟨e1, e2, e3, e4, e5⟩, e6⟩ := c8 p hp
      exact ⟨⟨e1, e2, by rw [g _ _ (by omega)]; exact e3, fun k hk => by rw [g _ _ (by omega)]; exact e4 k hk, e5⟩, e6⟩
  · intro q
    obtain ⟨d1, d2, d3, d4⟩ := i10 q
    exact ⟨d1, by rw [g _ _ (by omega)]; exact d2, fun k hk => by rw [g _ _ (by omega)]; exact d3 k hk, d4⟩
  · rcases i11 with ⟨a, b⟩ | ⟨frm, a, b, c, d⟩
    · exact Or.inl ⟨by rw [g _ _ (by omega)]; exact a, b⟩
    · exact Or.inr ⟨frm, by rw [g _ _ (by omega)]; exact a, by rw [g _ _ (by omega)]; exact b, c, fun k hk => by rw [g _ _ (by omega)]; exact d k hk⟩
  · intro p hp
    obtain ⟨⟨V, n, a1, a2, a3, a4, a5, a6⟩, ⟨a, b, b1, b2, b3, b4, b5, b6, b7, b8⟩, ⟨F, f1, f2, f3⟩⟩ := i12 p hp
    exact ⟨⟨V, n, a1, a2, a3, a4, by rw [g _ _ (by omega)]; exact a5, by rw [gJ _ (by omega)]; exact a6⟩, ⟨a, b, b1, b2, b3, b4, by rw [g _ _ (by omega)]; exact b5, by rw [g _ _ (by omega)]; exact b6, by rw [g _ _ (by omega)]; exact b7, by rw [g _ _ (by omega)]; exact b8⟩, ⟨F, f1, by rw [g _ _ (by omega)]; exact f2, by rw [g _ _ (by omega)]; exact f3⟩⟩
theorem fn_a {a j : Nat} (h : (38 ≤ a ∧ a ≤ 42) ∨ a = 200 ∨ (a = 162 ∧ j = 64) ∨ (a = 148 ∧ 5 ≤ j) ∨ a = 152) : fIN a j = true := by
  unfold fIN
  simp only [Bool.or_eq_true, Bool.and_eq_true, Nat.beq_eq, Nat.ble_eq]
  omega
theorem IN_fr {X : Nat → Nat → Bool} {s t : sT} {fin ppl : Nat} {w : Nat → Nat} {κ : kT} (h : Fr X s t) (hx : off fIN X) (I : IN s fin ppl w κ) : IN t fin ppl w κ := by
  have g : ∀ a j, ((38 ≤ a ∧ a ≤ 42) ∨ a = 200 ∨ (a = 162 ∧ j = 64) ∨ (a = 148 ∧ 5 ≤ j) ∨ a = 152) → X a j = false := fun a j q => hx a j (fn_a q)
  obtain ⟨i1, i2, i3, i4, i5, i6, κ', i7⟩ := I
  refine ⟨StW_fr h (fun a j p q => g _ _ (by omega)) i1, NwW_fr h (fun j _ => g _ _ (by omega)) i2, i3, KpC_fr h (fun a j q => g _ _ (by omega)) i4, ?_, by rw [h.1 _ _ (g _ _ (by omega))]; exact i6, κ', ?_⟩
  · exact ⟨by rw [h.1 _ _ (g _ _ (by omega))]; exact i5.1, i5.2.1, fun k hk j hj => by rw [h.1 _ _ (g _ _ (by omega))]; exact i5.2.2 k hk j hj⟩
  · obtain ⟨a, b, f, c, d, e⟩ := i7
    exact ⟨by rw [h.1 _ _ (g _ _ (by omega))]; exact a, b, f, c, by rw [h.1 _ _ (g _ _ (by omega))]; exact d, fun k hk j hj => by rw [h.1 _ _ (g _ _ (by omega))]; exact e k hk j hj⟩
theorem hPr_fr {X : Nat → Nat → Bool} {s t : sT} {fin ppl q of : Nat} (h : Fr X s t) (hx : ∀ a j, (q ≤ a ∧ a ≤ q + 4) → X a j = false) (hx2 : ∀ j, of ≤ j → j < of + 158 → X 212 j = false) (I : hPr s fin ppl q of) : hPr t fin ppl q of := by
  obtain ⟨w, κ, h1, h2, h3, h4, h5, h6⟩ := I
  have h3b := h3.2.1
  refine ⟨w, κ, h1, StW_fr h (fun a j p r => hx _ _ (by omega)) h2, KpC_fr h (fun a j r => hx _ _ (by omega)) h3, fun k hk => by rw [h.1 _ _ (hx2 _ (by omega) (by omega))]; exact h4 k hk, by rw [h.1 _ _ (hx2 _ (by omega) (by omega))]; exact h5, fun k hk j hj => by rw [h.1 _ _ (hx2 _ (by omega) (by omega))]; exact h6 k hk j hj⟩
theorem fh_a {a j : Nat} (h : (43 ≤ a ∧ a ≤ 144) ∨ a = 212 ∨ (a = 162 ∧ (j = 73 ∨ j = 74))) : fIH a j = true := by
  unfold fIH
  simp only [Bool.or_eq_true, Bool.and_eq_true, Nat.beq_eq, Nat.ble_eq]
  omega
theorem IH_fr {X : Nat → Nat → Bool} {s t : sT} {fin ppl : Nat} (h : Fr X s t) (hx : off fIH X) (I : IH s fin ppl) : IH t fin ppl := by
  have g : ∀ a j, ((43 ≤ a ∧ a ≤ 144) ∨ a = 212 ∨ (a = 162 ∧ (j = 73 ∨ j = 74))) → X a j = false := fun a j q => hx a j (fh_a q)
  obtain ⟨c, hf, nw, h1, h2, h3, h4, h5, h6, h7, h8⟩ := I
  refine ⟨c, hf, nw, h1, h2, h3, by rw [h.1 _ _ (g _ _ (by omega))]; exact h4, by rw [h.1 _ _ (g _ _ (by omega))]; exact h5, by rw [h.1 _ _ (g _ _ (by omega))]; exact h6, by rw [h.1 _ _ (g _ _ (by omega))]; exact h7, fun k hk => hPr_fr h (fun a j q => g _ _ ?_) (fun j _ _ => g _ _ (by omega)) (h8 k hk)⟩
  have := Nat.mod_lt (hf + k) (show 0 < 20 by decide)
  omega
theorem IX_fr {X : Nat → Nat → Bool} {s t : sT} {ppl : Nat} (h : Fr X s t) (hx : off fIX X) (I : IX s ppl) : IX t ppl := by
  obtain ⟨c, h1, h2, h3, h4⟩ := I
  refine ⟨c, h1, by rw [h.1 _ _ (hx _ _ rfl)]; exact h2, by rw [h.1 _ _ (hx _ _ rfl)]; exact h3, fun r hr => ?_⟩
  rw [h.1 155 _ (hx _ _ rfl), h.1 155 _ (hx _ _ rfl), h.1 155 _ (hx _ _ rfl), h.1 210 _ (hx _ _ rfl), h.1 210 _ (hx _ _ rfl), h.1 210 _ (hx _ _ rfl)]
  exact h4 r hr
theorem IK_fr {X : Nat → Nat → Bool} {s t : sT} {fin most : Nat} (h : Fr X s t) (hx : off fIK X) (I : IK s fin most) : IK t fin most := by
  rcases I with ⟨a, b⟩ | ⟨U, a, b, c, d, e⟩
  · exact Or.inl ⟨by rw [h.2.1 _ _ (hx _ _ rfl)]; exact a, by rw [h.1 _ _ (hx _ _ rfl)]; exact b⟩
  · exact Or.inr ⟨U, a, b, by rw [h.2.1 _ _ (hx _ _ rfl)]; exact c, by rw [h.1 _ _ (hx _ _ rfl)]; exact d, fun k hk => by rw [h.1 _ _ (hx _ _ rfl)]; exact e k hk⟩
/-- what belongs to no one between two calls -/
def fI (a j : Nat) : Bool := fIC a j || (fIT a j || (fIR a j || (fIF a j || (fIP a j || (fIS a j || (fIO a j || (fIN a j || (fIH a j || (fIX a j || fIK a j)))))))))
theorem off_sub {f X : Nat → Nat → Bool} (h : off fI X) (hf : ∀ a j, f a j = true → fI a j = true) : off f X := fun a j q => h a j (hf a j q)
theorem Inv_fr {X : Nat → Nat → Bool} {s t : sT} (h : Fr X s t) (hx : off fI X) (I : Inv s) : Inv t := by
  obtain ⟨fin, most, ppl, bk, mi, L, lc, cc, w, κ, ⟨c1, c2, c3, c4, c5, c6⟩, i1, i2, i3, i4, i5⟩ := I
  have o : ∀ f : Nat → Nat → Bool, (∀ a j, f a j = true → fI a j = true) → off f X := fun f hf => off_sub hx hf
  refine ⟨fin, most, ppl, bk, mi, L, lc, cc, w, κ, ⟨IC_fr h (o _ fun a j q => ?_) c1, IT_fr h (o _ fun a j q => ?_) c2, IR_fr h (o _ fun a j q => ?_) c3, IF_fr h (o _ fun a j q => ?_) c4, IP_fr h (o _ fun a j q => ?_) c5, IS_fr h (o _ fun a j q => ?_) c6⟩, IO_fr h (o _ fun a j q => ?_) i1, IN_fr h (o _ fun a j q => ?_) i2, IH_fr h (o _ fun a j q => ?_) i3, IX_fr h (o _ fun a j q => ?_) i4, IK_fr h (o _ fun a j q => ?_) i5⟩
  all_goals
    unfold fI
    simp only [Bool.or_eq_true]
    simp [q]
