-- what was, kept and brought back
def XhC (a _ : Nat) : Bool := Nat.beq a 43 || (Nat.ble 45 a && Nat.ble a 144)
def XhR (a j : Nat) : Bool := Nat.beq a 212 || (Nat.beq a 162 && (Nat.beq j 73 || Nat.beq j 74))
theorem xhC {a j : Nat} (h : a = 43 ∨ (45 ≤ a ∧ a ≤ 144)) : XhC a j = true := by
  unfold XhC
  simp only [Bool.or_eq_true, Bool.and_eq_true, Nat.beq_eq, Nat.ble_eq]
  exact h
theorem xs_e {t a j : Nat} (h : Xs t a j = true) : t ≤ a ∧ a ≤ t + 4 := by
  unfold Xs at h
  simp only [Bool.or_eq_true, Nat.beq_eq] at h
  omega
/-- the class has kept (w, κ), the reference not yet -/
def IHm (s : sT) (fin ppl : Nat) (w : Nat → Nat) (κ : kT) : Prop := ∃ c d hf nw, c ≤ 20 ∧ 1 ≤ d ∧ ((d = c + 1 ∧ d ≤ 20) ∨ (c = 20 ∧ d = 20)) ∧ hf < 20 ∧ nw < 20 ∧ rI s 43 1 = nI hf ∧ rI s 43 2 = nI d ∧ rI s 162 73 = nI c ∧ rI s 162 74 = nI nw ∧ (∀ k, k + 1 < d → hPr s fin ppl (45 + 5 * ((hf + k) % 20)) (158 * ((nw + 22 + k - d) % 20))) ∧ StW s (45 + 5 * ((hf + (d - 1)) % 20)) w ∧ KpC s (45 + 5 * ((hf + (d - 1)) % 20)) κ
theorem w_keepC {fin ppl : Nat} {w : Nat → Nat} {κ : kT} {Q : sT → Prop} {s : sT} (I : IH s fin ppl) (W : StW s 38 w) (K : KpC s 38 κ) (h : ∀ s', Fr XhC s s' → IHm s' fin ppl w κ → Q s') : c3_keep Q s := by
  obtain ⟨c, hf, nw, h1, h2, h3, h4, h5, h6, h7, h8⟩ := I
  have e : nI hf + nI c - (nI hf + nI c) / (20 : Int32) * (20 : Int32) = nI ((hf + c) % 20) := by rw [nI_add, show (20 : Int32) = nI 20 from rfl, pk_rem (by omega) (by decide) (by decide)]
  have hm : (hf + c) % 20 < 20 := Nat.mod_lt _ (by decide)
  refine e_c3_keep ?_
  rw [h4, h5, e, nI_clamp (by omega)]
  refine ⟨vp_in_nI hm (by decide), w_takeAll (by omega) W K (fun u F W1 K1 => ?_)⟩
  have Fu : Fr XhC s u := fr_mo F (fun a j q => xhC (by have := xs_e q; omega))
  have u1 : rI u 43 1 = nI hf := by rw [F.1 _ _ (xs_f (by omega))]; exact h4
  have u2 : rI u 43 2 = nI c := by rw [F.1 _ _ (xs_f (by omega))]; exact h5
  have u3 : rI u 162 73 = nI c := by rw [F.1 _ _ (xs_f (by omega))]; exact h6
  have u4 : rI u 162 74 = nI nw := by rw [F.1 _ _ (xs_f (by omega))]; exact h7
  rw [u2, u1]
  refine br_c (fun q v hv => ?_) (fun q v hv => ?_)
  · rw [show (20 : Int32) = nI 20 from rfl, nI_ltI (by omega) (by decide)] at q
    rw [nI_1] at hv
    have F43 : Fr (fun a _ => Nat.beq a 43) u v := by rw [hv]; exact fr_wI fr_rf rfl
    have nb : ∀ a j, a ≠ 43 → (fun a (_ : Nat) => Nat.beq a 43) a j = false := fun a j z => by
      show Nat.beq a 43 = false
      rw [Bool.eq_false_iff]
      intro y
      exact z (Nat.eq_of_beq_eq_true y)
    refine h v (by rw [hv]; exact fr_wI Fu (xhC (by omega))) ⟨c, c + 1, hf, nw, h1, by omega, Or.inl ⟨rfl, by omega⟩, h2, h3, ?_, ?_, ?_, ?_, fun k hk => ?_, ?_, ?_⟩
    · rw [hv, rI_wI, if_neg (by omega)]; exact u1
    · rw [hv, rI_wI, if_pos ⟨rfl, rfl⟩]
    · rw [hv, rI_wI, if_neg (by omega)]; exact u3
    · rw [hv, rI_wI, if_neg (by omega)]; exact u4
    · have := hPr_fr (h := F) (fun a j z => xs_f (by
        have a1 := Nat.mod_lt (hf + k) (show 0 < 20 by decide)
        have a2 : (hf + k) % 20 ≠ (hf + c) % 20 := by omega
        omega)) (fun j _ _ => xs_f (by omega)) (h8 k (by omega))
      rw [show nw + 22 + k - (c + 1) = nw + 21 + k - c by omega]
      exact hPr_fr F43 (fun a j z => nb a j (by omega)) (fun j _ _ => nb 212 j (by omega)) this
    · rw [Nat.add_sub_cancel]
      exact StW_fr F43 (fun a j z y => nb a j (by omega)) W1
    · rw [Nat.add_sub_cancel]
      exact KpC_fr F43 (fun a j z => nb a j (by omega)) K1
  · rw [show (20 : Int32) = nI 20 from rfl, nI_ltI (by omega) (by decide)] at q
    have ec : c = 20 := by omega
    subst ec
    rw [nI_1, show (20 : Int32) = nI 20 from rfl, pk_rem (by omega) (by decide) (by decide)] at hv
    have F43 : Fr (fun a _ => Nat.beq a 43) u v := by rw [hv]; exact fr_wI fr_rf rfl
    have nb : ∀ a j, a ≠ 43 → (fun a (_ : Nat) => Nat.beq a 43) a j = false := fun a j z => by
      show Nat.beq a 43 = false
      rw [Bool.eq_false_iff]
      intro y
      exact z (Nat.eq_of_beq_eq_true y)
    refine h v (by rw [hv]; exact fr_wI Fu (xhC (by omega))) ⟨20, 20, (hf + 1) % 20, nw, h1, by omega, Or.inr ⟨rfl, rfl⟩, Nat.mod_lt _ (by decide), h3, ?_, ?_, ?_, ?_, fun k hk => ?_, ?_, ?_⟩
    · rw [hv, rI_wI, if_pos ⟨rfl, rfl⟩]
    · rw [hv, rI_wI, if_neg (by omega)]; exact u2
    · rw [hv, rI_wI, if_neg (by omega)]; exact u3
    · rw [hv, rI_wI, if_neg (by omega)]; exact u4
    · have := hPr_fr (h := F) (fun a j z => xs_f (by
        have a1 := Nat.mod_lt (hf + (k + 1)) (show 0 < 20 by decide)
        have a2 : (hf + (k + 1)) % 20 ≠ (hf + 20) % 20 := by omega
        omega)) (fun j _ _ => xs_f (by omega)) (h8 (k + 1) (by omega))
      rw [show nw + 22 + k - 20 = nw + 21 + (k + 1) - 20 by omega, show ((hf + 1) % 20 + k) % 20 = (hf + (k + 1)) % 20 by omega]
      exact hPr_fr F43 (fun a j z => nb a j (by omega)) (fun j _ _ => nb 212 j (by omega)) this
    · rw [show ((hf + 1) % 20 + (20 - 1)) % 20 = (hf + 20) % 20 by omega]
      exact StW_fr F43 (fun a j z y => nb a j (by omega)) W1
    · rw [show ((hf + 1) % 20 + (20 - 1)) % 20 = (hf + 20) % 20 by omega]
      exact KpC_fr F43 (fun a j z => nb a j (by omega)) K1
theorem w_keeps_15 {b : Nat} {Q : sT → Prop} {s : sT} (hb : b < 20) (h74 : rI s 162 74 = nI b) (h : ∀ s', Fr (fun a _ => Nat.beq a 212) s s' → (∀ j, rI s' 212 j = if 158 * b ≤ j ∧ j < 158 * b + 158 then rI s 200 (j - 158 * b) else rI s 212 j) → ((rI s' 162 73) < (20 : Int32) → ∀ u2 : sT, u2 = wI s' 162 73 ((rI s' 162 73) + (1 : Int32)) → Q u2) ∧ (¬ (rI s' 162 73) < (20 : Int32) → Q s')) : ∀ m k s', k + m = 158 → Fr (fun a _ => Nat.beq a 212) s s' → (∀ j, rI s' 212 j = if 158 * b ≤ j ∧ j < 158 * b + k then rI s 200 (j - 158 * b) else rI s 212 j) → c12_keeps_15 (nI k) Q s'
  | 0, k, s', e, F, g => by
    have e : k = 158 := e
    subst e
    exact e_c12_keeps_15 (br_f (by decide) (h s' F g))
  | m + 1, k, s', e, F, g => by
    have e4 : (158 : Int32) * nI b + nI k = nI (158 * b + k) := by rw [show (158 : Int32) = nI 158 from rfl, pk_mul, nI_add]
    refine e_c12_keeps_15 (br_t (nI_lt (b := 158) (by omega) (by decide)) ?_)
    rw [F.1 162 74 rfl, h74, e4, nI_clamp (by omega), nI_clamp (by omega), F.1 200 k rfl, nI_1]
    refine ⟨vp_in_nI (by omega) (by decide), vp_in_nI (by omega) (by decide), fun u hu => ?_⟩
    refine w_keeps_15 hb h74 h m (k + 1) u (by omega) (by rw [hu]; exact fr_wI F rfl) (fun j => ?_)
    rw [hu, rI_wI, g j]
    by_cases z : j = 158 * b + k
    · subst z
      rw [if_pos ⟨rfl, rfl⟩, if_pos ⟨by omega, by omega⟩]
      congr 1
      omega
    · rw [if_neg (fun y => z y.2)]
      by_cases z2 : 158 * b ≤ j ∧ j < 158 * b + k
      · rw [if_pos z2, if_pos ⟨z2.1, by omega⟩]
      · rw [if_neg z2, if_neg (fun y => by omega)]
/-- the reference keeps too -/
theorem w_keepsR {fin ppl : Nat} {w : Nat → Nat} {κ : kT} {Q : sT → Prop} {s : sT} (I : IHm s fin ppl w κ) (hV : wV fin ppl w) (N : NwW s w) (K : KpR s κ) (h : ∀ s', Fr XhR s s' → IH s' fin ppl → Q s') : c12_keeps Q s := by
  obtain ⟨c, d, hf, nw, i1, i2, i3, i4, i5, i6, i7, i8, i9, i10, i11, i12⟩ := I
  refine e_c12_keeps (fun u hu => ?_)
  rw [i9, nI_1, show (20 : Int32) = nI 20 from rfl, pk_rem (by omega) (by decide) (by decide)] at hu
  have hb : (nw + 1) % 20 < 20 := Nat.mod_lt _ (by decide)
  have ru : ∀ a j, a ≠ 162 → rI u a j = rI s a j := fun a j q => by rw [hu, rI_wI, if_neg (by omega)]
  refine w_keeps_15 hb (by rw [hu, rI_wI, if_pos ⟨rfl, rfl⟩]) (fun v F g => ?_) 158 0 u (by decide) fr_rf (fun j => by rw [if_neg (by omega)])
  have Fv : Fr XhR s v := fr_tr (by rw [hu]; exact fr_wI fr_rf rfl) (fr_mo F (fun a j q => by
    unfold XhR
    have q' : Nat.beq a 212 = true := q
    rw [q']; rfl))
  have v73 : rI v 162 73 = nI c := by rw [F.1 _ _ rfl, hu, rI_wI, if_neg (by omega)]; exact i8
  have v74 : rI v 162 74 = nI ((nw + 1) % 20) := by rw [F.1 _ _ rfl, hu, rI_wI, if_pos ⟨rfl, rfl⟩]
  have nb : ∀ a j, a ≠ 212 → a ≠ 162 → XhR a j = false := fun a j z y => by
    unfold XhR
    rw [Bool.eq_false_iff]
    intro x
    simp only [Bool.or_eq_true, Bool.and_eq_true, Nat.beq_eq] at x
    omega
  have fin_ : ∀ t : sT, (∀ a j, a ≠ 162 → rI t a j = rI v a j) → Fr XhR s t → rI t 162 73 = nI d → rI t 162 74 = nI ((nw + 1) % 20) → IH t fin ppl := fun t ht Ft t73 t74 => by
    have rt : ∀ a j, a ≠ 212 → a ≠ 162 → rI t a j = rI s a j := fun a j z y => Ft.1 _ _ (nb _ _ z y)
    have r212 : ∀ j, rI t 212 j = if 158 * ((nw + 1) % 20) ≤ j ∧ j < 158 * ((nw + 1) % 20) + 158 then rI s 200 (j - 158 * ((nw + 1) % 20)) else rI s 212 j := fun j => by
      rw [ht _ _ (by omega), g, ru _ _ (by omega), ru _ _ (by omega)]
    refine ⟨d, hf, (nw + 1) % 20, by omega, i4, hb, by rw [rt _ _ (by omega) (by omega)]; exact i6, by rw [rt _ _ (by omega) (by omega)]; exact i7, t73, t74, fun k hk => ?_⟩
    have a1 := Nat.mod_lt (hf + k) (show 0 < 20 by decide)
    by_cases z : k + 1 < d
    · obtain ⟨w', κ', p1, p2, p3, p4, p5, p6⟩ := i10 k z
      have hk3 := p3.2.1
      have row : ((nw + 1) % 20 + 21 + k - d) % 20 = (nw + 22 + k - d) % 20 := by omega
      have dif : (nw + 22 + k - d) % 20 ≠ (nw + 1) % 20 := by omega
      have a2 := Nat.mod_lt (nw + 22 + k - d) (show 0 < 20 by decide)
      rw [row]
      refine ⟨w', κ', p1, StW_fr Ft (fun a j y x => nb _ _ (by omega) (by omega)) p2, KpC_fr Ft (fun a j x => nb _ _ (by omega) (by omega)) p3, fun i hi => ?_, ?_, fun i hi j hj => ?_⟩
      · rw [r212, if_neg (by omega)]; exact p4 i hi
      · rw [r212, if_neg (by omega)]; exact p5
      · rw [r212, if_neg (by omega)]; exact p6 i hi j hj
    · have ek : k = d - 1 := by omega
      subst ek
      have row : ((nw + 1) % 20 + 21 + (d - 1) - d) % 20 = (nw + 1) % 20 := by omega
      have hk3 := K.2.1
      rw [row]
      refine ⟨w, κ, hV, StW_fr Ft (fun a j y x => nb _ _ (by omega) (by omega)) i11, KpC_fr Ft (fun a j x => nb _ _ (by omega) (by omega)) i12, fun i hi => ?_, ?_, fun i hi j hj => ?_⟩
      · rw [r212, if_pos ⟨by omega, by omega⟩, Nat.add_sub_cancel_left]; exact N i hi
      · rw [r212, if_pos ⟨by omega, by omega⟩, Nat.add_sub_cancel_left]; exact K.1
      · rw [r212, if_pos ⟨by omega, by omega⟩, Nat.add_sub_cancel_left]; exact K.2.2 i hi j hj
  rw [v73]
  refine br_c (fun q t ht => ?_) (fun q => ?_)
  · rw [show (20 : Int32) = nI 20 from rfl, nI_ltI (by omega) (by decide)] at q
    rw [nI_1] at ht
    have Ft : Fr XhR s t := by rw [ht]; exact fr_wI Fv rfl
    refine h t Ft (fin_ t (fun a j y => by rw [ht, rI_wI, if_neg (by omega)]) Ft ?_ ?_)
    · rw [ht, rI_wI, if_pos ⟨rfl, rfl⟩]
      congr 1
      omega
    · rw [ht, rI_wI, if_neg (by omega)]; exact v74
  · rw [show (20 : Int32) = nI 20 from rfl, nI_ltI (by omega) (by decide)] at q
    exact h v Fv (fin_ v (fun a j y => rfl) Fv (by rw [v73]; congr 1; omega) v74)
