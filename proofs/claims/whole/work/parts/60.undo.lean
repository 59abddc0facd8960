theorem back_43 {s : sT} {hf c : Nat} (h4 : rI s 43 1 = nI hf) (h5 : rI s 43 2 = nI c) (hc : 1 ≤ c) (hc2 : c ≤ 20) (hh : hf < 20) {u : sT} (hu : u = wI s 43 2 ((rI s 43 2) - (1 : Int32))) : u = wI s 43 2 (nI (c - 1)) ∧ (((rI u 43 1) + (rI u 43 2)) - ((rI u 43 1) + (rI u 43 2)) / (20 : Int32) * (20 : Int32)) = nI ((hf + (c - 1)) % 20) := by
  rw [h5, show (1 : Int32) = nI 1 from rfl, pk_sub hc] at hu
  refine ⟨hu, ?_⟩
  have e1 : rI u 43 1 = nI hf := by rw [hu, rI_wI, if_neg (by omega)]; exact h4
  have e2 : rI u 43 2 = nI (c - 1) := by rw [hu, rI_wI, if_pos ⟨rfl, rfl⟩]
  rw [e1, e2, nI_add, show (20 : Int32) = nI 20 from rfl, pk_rem (by omega) (by decide) (by decide)]
theorem w_undo_21 {b : Nat} {Q : Int32 → sT → Prop} {s : sT} (hb : b < 20) (h74 : rI s 162 74 = nI b) (h : ∀ s', Fr (fun a _ => Nat.beq a 200) s s' → (∀ j, j < 158 → rI s' 200 j = rI s 212 (158 * b + j)) → ∀ u2 : sT, u2 = wI s' 162 74 ((((rI s' 162 74) + (20 : Int32)) - (1 : Int32)) - (((rI s' 162 74) + (20 : Int32)) - (1 : Int32)) / (20 : Int32) * (20 : Int32)) → ∀ u3 : sT, u3 = wI u2 162 73 ((rI u2 162 73) - (1 : Int32)) → Q (1 : Int32) u3) : ∀ m k s', k + m = 158 → Fr (fun a _ => Nat.beq a 200) s s' → (∀ j, j < k → rI s' 200 j = rI s 212 (158 * b + j)) → c12_undo_21 (nI k) Q s'
  | 0, k, s', e, F, g => by
    have e : k = 158 := e
    subst e
    exact e_c12_undo_21 (br_f (by decide) (h s' F g))
  | m + 1, k, s', e, F, g => by
    have e4 : (158 : Int32) * nI b + nI k = nI (158 * b + k) := by rw [show (158 : Int32) = nI 158 from rfl, pk_mul, nI_add]
    refine e_c12_undo_21 (br_t (nI_lt (b := 158) (by omega) (by decide)) ?_)
    rw [F.1 162 74 rfl, h74, e4, nI_clamp (by omega), nI_clamp (by omega), F.1 212 _ rfl, nI_1]
    refine ⟨vp_in_nI (by omega) (by decide), vp_in_nI (by omega) (by decide), fun u hu => ?_⟩
    refine w_undo_21 hb h74 h m (k + 1) u (by omega) (by rw [hu]; exact fr_wI F rfl) (fun j hj => ?_)
    rw [hu, rI_wI]
    by_cases z : j = k
    · subst z
      rw [if_pos ⟨rfl, rfl⟩]
    · rw [if_neg (fun y => z y.2)]
      exact g j (by omega)
theorem nb200 {a j : Nat} (h : a ≠ 200) : (fun a (_ : Nat) => Nat.beq a 200) a j = false := by
  show Nat.beq a 200 = false
  rw [Bool.eq_false_iff]
  intro z
  exact h (Nat.eq_of_beq_eq_true z)
theorem op_undo {s : sT} (I : Inv s) : two Inv c11_undo c12_undo s := by
  obtain ⟨fin, most, ppl, bk, mi, L, lc, cc, w, κ, I⟩ := I
  have I2 := I
  obtain ⟨⟨-, -, -, -, -, cS⟩, io, ⟨n1, n2, n3, n4, n5, n6, n7⟩, ⟨c, hf, nw, h1, h2, h3, h4, h5, h6, h7, h8⟩, -⟩ := I2
  refine e_c11_undo (e_c3_back ?_)
  rw [h5]
  refine br_c (fun q => ?_) (fun q u hu => ?_)
  · refine no0 (refC (k := 4) (by decide) (e_c12_undo (br_t (by rw [rI_wI, if_neg (by omega), h6]; exact q) (fun t ht => ⟨rfl, ?_⟩))))
    rw [ht]
    exact Inv_bump (IA_Inv I)
  · have hc : 1 ≤ c := by
      rcases Nat.eq_zero_or_pos c with z | z
      · exact absurd (by rw [z]; rfl) q
      · exact z
    rw [← h5] at hu
    obtain ⟨e1, e2⟩ := back_43 h4 h5 hc h1 h2 hu
    have hm := Nat.mod_lt (hf + (c - 1)) (show 0 < 20 by decide)
    rw [e2, nI_clamp (by omega)]
    have F43 : Fr (fun a _ => Nat.beq a 43) s u := by rw [e1]; exact fr_wI fr_rf rfl
    have nb : ∀ a j, a ≠ 43 → (fun a (_ : Nat) => Nat.beq a 43) a j = false := fun a j z => by
      show Nat.beq a 43 = false
      rw [Bool.eq_false_iff]
      intro y
      exact z (Nat.eq_of_beq_eq_true y)
    obtain ⟨w', κ', p1, p2, p3, p4, p5, p6⟩ := h8 (c - 1) (by omega)
    have row : (nw + 21 + (c - 1) - c) % 20 = nw := by omega
    rw [row] at p4 p5 p6
    have hk3 := p3.2.1
    refine ⟨vp_in_nI hm (by decide), w_takeAll (by omega) (StW_fr F43 (fun a j z y => nb a j (by omega)) p2) (KpC_fr F43 (fun a j z => nb a j (by omega)) p3) (fun v F2 W2 K2 => yes1 ?_)⟩
    have r2 : ∀ a j, ¬ (38 ≤ a ∧ a ≤ 43) → rI v a j = rI s a j := fun a j z => by rw [F2.1 _ _ (xs_f (by omega)), F43.1 _ _ (nb a j (by omega))]
    refine e_c12_undo (br_f (by rw [r2 _ _ (by omega), h6]; exact q) (w_undo_21 h3 (by rw [r2 _ _ (by omega)]; exact h7) (fun x F3 g3 y hy z hz => ⟨rfl, ?_⟩) 158 0 v (by decide) fr_rf (fun j hj => by omega)))
    have x74 : rI x 162 74 = nI nw := by rw [F3.1 _ _ rfl, r2 _ _ (by omega)]; exact h7
    rw [x74, show (20 : Int32) = nI 20 from rfl, nI_add, show (1 : Int32) = nI 1 from rfl, pk_sub (by omega), pk_rem (by omega) (by decide) (by decide)] at hy
    have y73 : rI y 162 73 = nI c := by rw [hy, rI_wI, if_neg (by omega), F3.1 _ _ rfl, r2 _ _ (by omega)]; exact h6
    rw [y73, show (1 : Int32) = nI 1 from rfl, pk_sub hc] at hz
    have Fz : Fr XhR x z := by rw [hz]; exact fr_wI (by rw [hy]; exact fr_wI fr_rf rfl) rfl
    have rz : ∀ a j, ¬ (38 ≤ a ∧ a ≤ 43) → a ≠ 200 → ¬ (a = 162 ∧ (j = 73 ∨ j = 74)) → rI z a j = rI s a j := fun a j q1 q2 q3 => by
      rw [hz, rI_wI, if_neg (by omega), hy, rI_wI, if_neg (by omega), F3.1 a j (nb200 (j := j) q2), r2 a j q1]
    have zx : ∀ j, rI z 200 j = rI x 200 j := fun j => by rw [hz, rI_wI, if_neg (by omega), hy, rI_wI, if_neg (by omega)]
    have F : Fr Xw s z := fr_tr (fr_tr (fr_mo F43 fun a j q => by
      have : a = 43 := Nat.eq_of_beq_eq_true q
      subst this
      exact xw_38 (by omega)) (fr_mo F2 fun a j q => xw_s q)) (fr_tr (fr_mo F3 fun a j q => by
      have : a = 200 := Nat.eq_of_beq_eq_true q
      subst this
      exact xw_z rfl) (fr_mo Fz fun a j q => xw_r q))
    refine IA_Inv (IA_w I F ?_ ⟨?_, fun k hk => ?_, p1, ?_, ⟨?_, hk3, fun k hk j hj => ?_⟩, ?_, ?_⟩ ⟨c - 1, hf, (nw + 19) % 20, by omega, h2, Nat.mod_lt _ (by decide), ?_, ?_, ?_, ?_, fun k hk => ?_⟩)
    · exact cS_of Fz rfl rfl (cS_of F3 rfl rfl (cS_of F2 rfl rfl (cS_of F43 rfl rfl cS)))
    · exact StW_fr Fz (fun a j p q => xhR_f (by omega)) (StW_fr F3 (fun a j p q => nb200 (a := a) (j := j) (by omega)) W2)
    · rw [zx, g3 _ (by omega), r2 _ _ (by omega)]; exact p4 k hk
    · exact KpC_fr Fz (fun a j q => xhR_f (by omega)) (KpC_fr F3 (fun a j q => nb200 (a := a) (j := j) (by omega)) K2)
    · rw [zx, g3 _ (by omega), r2 _ _ (by omega)]; exact p5
    · rw [zx, g3 _ (by omega), r2 _ _ (by omega)]; exact p6 k hk j hj
    · rw [rz _ _ (by omega) (by omega) (by omega)]; exact n6
    · exact k148_fr Fz (fun a j q => xhR_f (by omega)) (k148_fr F3 (fun a j q => nb200 (a := a) (j := j) (by omega)) (k148_fr F2 (fun a j q => xs_f (by omega)) (k148_fr F43 (fun a j q => nb a j (by omega)) n7)))
    · have : rI z 43 1 = rI u 43 1 := by rw [hz, rI_wI, if_neg (by omega), hy, rI_wI, if_neg (by omega), F3.1 _ _ rfl, F2.1 _ _ (xs_f (by omega))]
      rw [this, e1, rI_wI, if_neg (by omega)]; exact h4
    · have : rI z 43 2 = rI u 43 2 := by rw [hz, rI_wI, if_neg (by omega), hy, rI_wI, if_neg (by omega), F3.1 _ _ rfl, F2.1 _ _ (xs_f (by omega))]
      rw [this, e1, rI_wI, if_pos ⟨rfl, rfl⟩]
    · rw [hz, rI_wI, if_pos ⟨rfl, rfl⟩]
    · rw [hz, rI_wI, if_neg (by omega), hy, rI_wI, if_pos ⟨rfl, rfl⟩]
      rfl
    · have := h8 k (by omega)
      have row2 : ((nw + 19) % 20 + 21 + k - (c - 1)) % 20 = (nw + 21 + k - c) % 20 := by omega
      have a1 := Nat.mod_lt (hf + k) (show 0 < 20 by decide)
      rw [row2]
      have F162 : Fr (fun a _ => Nat.beq a 162) x z := by rw [hz]; exact fr_wI (by rw [hy]; exact fr_wI fr_rf rfl) rfl
      have nb2 : ∀ a j, a ≠ 162 → (fun a (_ : Nat) => Nat.beq a 162) a j = false := fun a j z => by
        show Nat.beq a 162 = false
        rw [Bool.eq_false_iff]
        intro y
        exact z (Nat.eq_of_beq_eq_true y)
      exact hPr_fr F162 (fun a j q => nb2 a j (by omega)) (fun j _ _ => nb2 212 j (by omega)) (hPr_fr F3 (fun a j q => nb200 (a := a) (j := j) (by omega)) (fun j _ _ => nb200 (a := 212) (j := j) (by omega)) (hPr_fr F2 (fun a j q => xs_f (by omega)) (fun j _ _ => xs_f (by omega)) (hPr_fr F43 (fun a j q => nb a j (by omega)) (fun j _ _ => nb 212 j (by omega)) this)))
