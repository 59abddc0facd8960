/-- the cheapest of a row, the first of those -/
def chF (P : Nat → Int) : List Nat → Nat → Nat
  | [], b => b
  | y :: r, b => if P y < P b then chF P r y else chF P r b
theorem w_chpC {l : List Nat} {P : Nat → Int} {k : Int32} {Q : Int64 → sT → Prop} {s0 : sT} (A : FLc s0 l) (h32 : l.length ≤ 32) (hl : ∀ y ∈ l, 0 < y ∧ y < 2 ^ 24) (pr : ∀ y, y < 2 ^ 24 → ∀ s1 (Q : Int64 → sT → Prop), Fr XfeC s0 s1 → (∀ s2 r, Fr XfeC s0 s2 → r.toInt = P y → Q r s2) → c11_priceOf (nI y) Q s1) : ∀ (r : List Nat) (i bi b : Nat) (v : Int64) s, l.drop i = r → i ≤ l.length → (∃ hb : bi < l.length, l[bi] = b) → v.toInt = P b → Fr XfeC s0 s → (∀ s2 v, Fr XfeC s0 s2 → v.toInt = P (chF P r b) → (k = 0 → Q (lN (chF P r b)) s2) ∧ (¬ k = 0 → Q v s2)) → c11_cheapest_47 k (nI l.length) (nI bi) v (nI i) Q s
  | [], i, bi, b, v, s, e, hi, ⟨hb, eb⟩, hv, F, h => by
    have := drop_nil e hi
    obtain ⟨h1, h2⟩ := h s v F hv
    have hb24 := (hl b (eb ▸ List.getElem_mem hb)).2
    refine e_c11_cheapest_47 (br_f (nI_nlt (by omega) (by omega)) (br_c (fun q => ⟨vp_in_nI (by omega) (by decide), ?_⟩) h2))
    rw [nI_clamp (by omega), F.1 37 bi rfl, A.2 bi hb, eb, nI_l (by omega)]
    exact h1 q
  | y :: r, i, bi, b, v, s, e, hi, hbi, hv, F, h => by
    obtain ⟨g1, g2, g3⟩ := drop_ix e
    have hy := hl y (g2 ▸ List.getElem_mem g1)
    unfold chF at h
    refine e_c11_cheapest_47 (br_t (nI_lt g1 (by omega)) ⟨vp_in_nI (by omega) (by decide), ?_⟩)
    rw [nI_clamp (by omega), F.1 37 i rfl, A.2 i g1, g2]
    refine pr y hy.2 s _ F (fun s2 z F2 hz => ?_)
    rw [fa_lt64, hz, hv, nI_1]
    refine br_c (fun q => ?_) (fun q => ?_)
    · rw [if_pos q] at h
      exact w_chpC A h32 hl pr r (i + 1) i y z s2 g3 g1 ⟨g1, g2⟩ hz F2 h
    · rw [if_neg q] at h
      exact w_chpC A h32 hl pr r (i + 1) bi b v s2 g3 g1 hbi hv F2 h
theorem w_chpR {l : List Nat} {P : Nat → Int} {k : Int32} {Q : Int64 → sT → Prop} {s0 : sT} (A : FLr s0 l) (h32 : l.length ≤ 32) (hl : ∀ y ∈ l, 0 < y ∧ y < 2 ^ 24) (pr : ∀ y, y < 2 ^ 24 → ∀ s1 (Q : Int64 → sT → Prop), Fr XfeR s0 s1 → (∀ s2 r, Fr XfeR s0 s2 → r.toInt = P y → Q r s2) → c12_costOf (nI y) Q s1) : ∀ (r : List Nat) (i b : Nat) (v : Int64) s, l.drop i = r → i ≤ l.length → b < 2 ^ 24 → v.toInt = P b → Fr XfeR s0 s → (∀ s2 v, Fr XfeR s0 s2 → v.toInt = P (chF P r b) → (k = 0 → Q (lN (chF P r b)) s2) ∧ (¬ k = 0 → Q v s2)) → c12_cheapest_62 k (nI b) v (nI i) Q s
  | [], i, b, v, s, e, hi, hb, hv, F, h => by
    have := drop_nil e hi
    obtain ⟨h1, h2⟩ := h s v F hv
    refine e_c12_cheapest_62 (br_f (by rw [F.1 _ _ rfl, A.1]; exact nI_nlt (by omega) (by omega)) (br_c (fun q => ?_) h2))
    rw [nI_l (by omega)]
    exact h1 q
  | y :: r, i, b, v, s, e, hi, hb, hv, F, h => by
    obtain ⟨g1, g2, g3⟩ := drop_ix e
    have hy := hl y (g2 ▸ List.getElem_mem g1)
    unfold chF at h
    refine e_c12_cheapest_62 (br_t (by rw [F.1 _ _ rfl, A.1]; exact nI_lt g1 (by omega)) ⟨vp_in_nI (by omega) (by decide), ?_⟩)
    rw [nI_clamp (by omega), F.1 201 i rfl, A.2 i g1, g2]
    refine pr y hy.2 s _ F (fun s2 z F2 hz => ?_)
    rw [fa_lt64, hz, hv, nI_1, F2.1 201 i rfl, A.2 i g1, g2]
    refine br_c (fun q => ⟨vp_in_nI (by omega) (by decide), fun x hx => ?_⟩) (fun q => ?_)
    · rw [if_pos q] at h
      rw [hx]
      exact w_chpR A h32 hl pr r (i + 1) y z s2 g3 g1 hy.2 hz F2 h
    · rw [if_neg q] at h
      exact w_chpR A h32 hl pr r (i + 1) b v s2 g3 g1 hb hv F2 h
theorem cosC_fr {X : Nat → Nat → Bool} {s t : sT} {cc : List Nat} (h : Fr X s t) (hx : ∀ a j, a = 26 ∨ a = 27 → X a j = false) (C : cosC s cc) : cosC t cc := by
  obtain ⟨d1, d2, d3, d4⟩ := C
  exact ⟨d1, by rw [h.1 _ _ (hx _ _ (Or.inl rfl))]; exact d2, fun k hk => by rw [h.1 _ _ (hx _ _ (Or.inr rfl))]; exact d3 k hk, d4⟩
theorem cosR_fr {X : Nat → Nat → Bool} {s t : sT} {cc : List Nat} (h : Fr X s t) (hx : ∀ a j, a = 197 ∨ a = 198 ∨ a = 199 → X a j = false) (C : cosR s cc) : cosR t cc := by
  rcases C with ⟨a, b⟩ | ⟨frm, a, b, c, d⟩
  · exact Or.inl ⟨by rw [h.1 _ _ (hx _ _ (by omega))]; exact a, b⟩
  · exact Or.inr ⟨frm, by rw [h.1 _ _ (hx _ _ (by omega))]; exact a, by rw [h.1 _ _ (hx _ _ (by omega))]; exact b, c, fun k hk => by rw [h.1 _ _ (hx _ _ (by omega))]; exact d k hk⟩
theorem xz_feC {a j : Nat} (h : XfeC a j = true) : Xz a j = true := by
  unfold XfeC at h
  unfold Xz
  simp only [Bool.or_eq_true, Bool.and_eq_true, Nat.beq_eq, Nat.ble_eq] at h ⊢
  omega
theorem xz_feR {a j : Nat} (h : XfeR a j = true) : Xz a j = true := by
  unfold XfeR at h
  unfold Xz
  simp only [Bool.or_eq_true, Bool.and_eq_true, Nat.beq_eq, Nat.ble_eq] at h ⊢
  omega
theorem chF_lt {P : Nat → Int} : ∀ (r : List Nat) (b : Nat), (∀ x ∈ r, x < 2 ^ 24) → b < 2 ^ 24 → chF P r b < 2 ^ 24
  | [], b, h, hb => hb
  | y :: r, b, h, hb => by
    unfold chF
    split
    · exact chF_lt r y (fun x hx => h x (List.mem_cons_of_mem _ hx)) (h y List.mem_cons_self)
    · exact chF_lt r b (fun x hx => h x (List.mem_cons_of_mem _ hx)) hb
theorem op_cheapest {s : sT} (v x k : Int32) (I : Inv s) : twoJ Inv (c11_cheapest v x k) (c12_cheapest v x k) s := by
  obtain ⟨fin, most, ppl, bk, mi, L, lc, cc, w, κ, I⟩ := I
  obtain ⟨⟨c1, -⟩, io, ⟨n1, n2, n3, -⟩, -, -, ik⟩ := id I
  obtain ⟨-, m1, m6, -, eM, -, -, OC, OR, CC, CR, -⟩ := id io
  have h24 := OC.1
  have II := IA_Inv I
  have hFC := OC.2.2.2.1
  have hFR := OR.2.2.2.1
  have hw : wB w := fun n => by have := n3.1 n; omega
  have L1' : ((1 : Int64)).toInt = 1 := rfl
  have L0' : ((0 : Int64)).toInt = 0 := rfl
  by_cases hn : okS fin v x
  · obtain ⟨hf, a, b, a1, a2, b1, b2, rfl, rfl⟩ := hn
    obtain ⟨-, ht, h6⟩ := IO_told io (by omega)
    have wl := wrs_len (U := un a b) h24 m6
    have wm := mem24 (most := most) (U := un a b) h24
    refine e_c11_cheapest (e_c11_writings (shC_t hFC h24 hf a1 a2 b1 b2 (yes1 (w_units a2 b1 b2 (w_findU h24 m1 m6 hFC eM (prC_of c1) ik (un_lt a2) (fun s1 F1 K1 A1 => ?_))))))
    have I1 := IA_k I F1 K1
    have I1' : Inv s1 := IA_Inv I1
    -- the reference up to its writings
    have RS : ∀ (s2 : sT) (Q : Int64 → sT → Prop), Fr XfeC s1 s2 → (¬ (0 ≤ k.toInt ∧ k.toInt ≤ 1) → Q (-1000000000000000 : Int64) s2) → ((0 ≤ k.toInt ∧ k.toInt ≤ 1) → ∀ s3, Fr XL s2 s3 → FLr s3 (wrs fin most (un a b)) → ((rI s3 162 53) = 0 → Q (-1000000000000000 : Int64) s3) ∧ (¬ (rI s3 162 53) = 0 → ∀ x8 : Int32, x8 = (rI s3 201 0) → c12_costOf x8 (fun y9 u10 => c12_cheapest_62 k x8 y9 (1 : Int32) Q u10) s3)) → c12_cheapest (nI a) (nI b) k Q s2 := fun s2 Q F2 h1 h2 => by
      have hF2 : rI s2 193 5 = nI fin := by rw [F2.1 _ _ rfl, F1.1 _ _ rfl]; exact hFR
      have ht2 : rI s2 162 49 = 1 := by rw [F2.1 _ _ rfl, F1.1 _ _ rfl]; exact ht
      have h62 : rI s2 193 6 = nI most := by rw [F2.1 _ _ rfl, F1.1 _ _ rfl]; exact h6
      refine e_c12_cheapest (shR_t ht2 a1 a2 b1 b2 (yes1 (m_isIn (fun y => yes1 (w_partsOf a2 b1 b2 (w_laysU h24 m1 m6 hF2 ht2 h62 (un_lt a2) (fun s3 F3 A3 => h2 ?_ s3 F3 A3)))) (fun y => no0 (h1 (fun z => y ?_))))))
      · rw [wide, L0', L1'] at y; exact y
      · rw [wide, L0', L1']; exact z
    by_cases hk : 0 ≤ k.toInt ∧ k.toInt ≤ 1
    · cases hl : wrs fin most (un a b) with
      | nil =>
        rw [hl] at A1
        refine br_f (by decide) (RS s1 _ fr_rf (fun z => absurd hk z) (fun _ s3 F3 A3 => ?_))
        rw [hl] at A3
        exact br_t A3.1 ⟨rfl, IA_Inv (IA_L I1 F3)⟩
      | cons y0 r0 =>
        rw [hl] at A1 wl wm
        have y24 := (wm y0 List.mem_cons_self).2
        refine br_t (nI_lt (a := 0) (Nat.succ_pos _) (by omega)) (br_f (by rw [fa_lt]; show ¬ _ < (0 : Int); omega) (br_f (by rw [fa_lt]; show ¬ (1 : Int) < _; omega) ?_))
        have e37 : rI s1 37 0 = nI y0 := A1.2 0 (Nat.succ_pos _)
        rw [e37]
        have prc : ∀ y, y < 2 ^ 24 → ∀ s2 (Q : Int64 → sT → Prop), Fr XfeC s1 s2 → (∀ s3 r, Fr XfeC s1 s3 → r.toInt = prS cc w y fin 1 0 0 → Q r s3) → c11_priceOf (nI y) Q s2 := fun y hy s2 Q F2 h => by
          refine w_priceC h24 hy (by rw [F2.1 _ _ rfl, F1.1 _ _ rfl]; exact hFC) (StW_fr F2 (fun a j p q => ?_) (StW_fr F1 (fun a j p q => ?_) n1)) hw (cosC_fr F2 (fun a j q => by rcases q with rfl | rfl <;> rfl) (cosC_fr F1 (fun a j q => by rcases q with rfl | rfl <;> rfl) (CC (by omega)))) (fun s3 r F3 hr => h s3 r (fr_tr F2 F3) hr)
          · rw [Bool.eq_false_iff]
            intro z
            unfold XfeC at z
            simp only [Bool.or_eq_true, Nat.beq_eq] at z
            omega
          · rw [Bool.eq_false_iff]
            intro z
            unfold XFF XF at z
            simp only [Bool.or_eq_true, Bool.and_eq_true, Nat.beq_eq] at z
            omega
        refine prc y0 y24 s1 _ fr_rf (fun s2 v2 F2 hv2 => ?_)
        refine w_chpC (P := fun y => prS cc w y fin 1 0 0) A1 wl wm prc r0 1 0 y0 v2 s2 rfl (by show 1 ≤ r0.length + 1; omega) ⟨Nat.succ_pos _, rfl⟩ hv2 F2 (fun s3 v3 F3 hv3 => ?_)
        have R : ∀ r : Int64, (r = if k = 0 then lN (chF (fun y => prS cc w y fin 1 0 0) r0 y0) else v3) → c12_cheapest (nI a) (nI b) k (fun r2 s2 => r = r2 ∧ Inv s2) s3 := fun r hr => by
          refine RS s3 _ F3 (fun z => absurd hk z) (fun _ s4 F4 A4 => ?_)
          rw [hl] at A4
          have F14 : rI s4 162 53 = nI (r0.length + 1) := A4.1
          have e201 : rI s4 201 0 = nI y0 := A4.2 0 (Nat.succ_pos _)
          refine br_f (fun z => ?_) (fun x8 hx8 => ?_)
          · rw [F14, show (0 : Int32) = nI 0 from rfl, nI_eq (by have : r0.length + 1 ≤ 32 := wl; omega) (by decide)] at z
            omega
          rw [hx8, e201]
          have r4 : ∀ a j, XfeC a j = false → XFF a j = false → XL a j = false → rI s4 a j = rI s a j := fun a j p q r => by rw [F4.1 _ _ r, F3.1 _ _ p, F1.1 _ _ q]
          have N4 : NwW s4 w := fun j hj => by rw [r4 _ _ rfl rfl rfl]; exact n2 j hj
          have C4 : cosR s4 cc := cosR_fr F4 (fun a j q => by rcases q with rfl | rfl | rfl <;> rfl) (cosR_fr F3 (fun a j q => by rcases q with rfl | rfl | rfl <;> rfl) (cosR_fr F1 (fun a j q => by rcases q with rfl | rfl | rfl <;> rfl) CR))
          have prr : ∀ y, y < 2 ^ 24 → ∀ s5 (Q : Int64 → sT → Prop), Fr XfeR s4 s5 → (∀ s6 r, Fr XfeR s4 s6 → r.toInt = prS cc w y fin 1 0 0 → Q r s6) → c12_costOf (nI y) Q s5 := fun y hy s5 Q F5 h => by
            refine e_c12_costOf (fun u hu => ?_)
            refine w_coR (s := s4) (pl := 0) (a := 0) (v := 0) h24 hy (by rw [r4 _ _ rfl rfl rfl]; exact hFR) N4 hw C4 (CC (by omega)).2.2.2 fin 1 u (by omega) (by decide) (by decide) rfl (by omega) (by omega) (by rw [hu]; exact fr_wI F5 rfl) (by rw [hu, rI_wI, if_pos ⟨rfl, rfl⟩]; rfl) h
          refine prr y0 y24 s4 _ fr_rf (fun s5 v5 F5 hv5 => ?_)
          refine w_chpR (P := fun y => prS cc w y fin 1 0 0) A4 wl wm prr r0 1 y0 v5 s5 rfl (by show 1 ≤ r0.length + 1; omega) y24 hv5 F5 (fun s6 v6 F6 hv6 => ?_)
          have I6 : Inv s6 := IA_Inv (IA_y (IA_L (IA_y I1 F3 (fun a j q => xz_feC q) (fun _ => rfl) rfl (fun a j q => by rcases q with rfl | rfl <;> rfl)) F4) F6 (fun a j q => xz_feR q) (fun _ => rfl) rfl (fun a j q => by rcases q with rfl | rfl <;> rfl))
          refine br_c (fun q => ⟨?_, I6⟩) (fun q => ⟨?_, I6⟩)
          · rw [hr, if_pos q]
          · rw [hr, if_neg q, fa_eq64, hv3, hv6]
        exact br_c (fun q => R _ (by rw [if_pos q])) (fun q => R _ (by rw [if_neg q]))
    · have R : c12_cheapest (nI a) (nI b) k (fun r2 s2 => (-1000000000000000 : Int64) = r2 ∧ Inv s2) s1 := RS s1 _ fr_rf (fun _ => ⟨rfl, I1'⟩) (fun z => absurd z hk)
      refine br_c (fun _ => br_c (fun _ => R) (fun q => br_t ?_ R)) (fun _ => R)
      rw [fa_lt] at q ⊢
      have q' : ¬ k.toInt < 0 := q
      show (1 : Int) < k.toInt
      omega
  · exact e_c11_cheapest (e_c11_writings (shC_f hFC h24 hn (no0 (br_f (by decide) (e_c12_cheapest (shR_f (fun z => (IO_not io z).2.2) hn (no0 ⟨rfl, II⟩)))))))
