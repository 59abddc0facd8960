-- the office stands, in the class
def XTk (t a j : Nat) : Bool := (Nat.beq a t && Nat.beq j 2) || Nat.beq a (t + 1)
theorem xtk_n {t a j : Nat} (h : ¬ ((a = t ∧ j = 2) ∨ a = t + 1)) : XTk t a j = false := by
  rw [Bool.eq_false_iff]
  intro y
  unfold XTk at y
  simp only [Bool.or_eq_true, Bool.and_eq_true, Nat.beq_eq] at y
  exact h y
theorem w_takeF {t0 t1 : Nat} {l : List Nat} {Q : sT → Prop} {s : sT} (ht : t1 + 1 < t0) (hl : l.length ≤ 1600) (A : foC s t1 l) (h : ∀ s', Fr (XTk t0) s s' → foC s' t0 l → Q s') : c2_take t0 t1 Q s := by
  refine e_c2_take (fun u1 h1 => ?_)
  have e : rI u1 t0 2 = nI l.length := by rw [h1, rI_wI, if_pos ⟨rfl, rfl⟩]; exact A.1
  have x0 : XTk t0 t0 2 = true := by
    unfold XTk
    simp only [Bool.or_eq_true, Bool.and_eq_true, Nat.beq_eq, and_self, true_or]
  have x1 : ∀ j, XTk t0 (t0 + 1) j = true := fun j => by
    unfold XTk
    simp only [Bool.or_eq_true, Nat.beq_eq, or_true]
  rw [e, nI_clamp (by omega)]
  refine ⟨⟨by decide, by decide, nI_pos (by omega), by omega, by omega⟩, fun u2 h2 => h u2 (by rw [h2, h1]; exact fr_wC (fr_wI fr_rf x0) x1) ⟨?_, fun k hk => ?_⟩⟩
  · rw [h2, rI_wC, if_neg (by omega)]; exact e
  · rw [h2, rI_wC, if_pos rfl, cpy_r, if_pos hk, rA_r, h1, rI_wI, if_neg (by omega)]
    exact A.2 k hk
def XTK (a _ : Nat) : Bool := Nat.ble 21 a && Nat.ble a 30
theorem xtk_t {a j : Nat} (h : 21 ≤ a ∧ a ≤ 30) : XTK a j = true := by
  unfold XTK
  simp only [Bool.and_eq_true, Nat.ble_eq]
  exact h
theorem w_takeD {s : sT} {D : dT} {Q : sT → Prop} (d : DC s D) (hV : dOK D) (h : ∀ s', Fr XTK s s' → (∀ j, j < 5 → rI s' 21 j = nI (dM D j)) → (∀ p, p < dM D 2 → rI s' 22 p = nI (dV D p * 27 ^ (6 - dN D p)) ∧ rI s' 23 p = nI (dTp D p) ∧ rI s' 24 p = nI (dBt D p)) → (∀ k, k < 25 → rI s' 25 k = nI (dTo D k)) → foC s' 26 (dC' D).2 → foC s' 29 (dL D).2 → Q s') : c7_take Q s := by
  obtain ⟨d1, d2, d3, d4, d5, d6, d7⟩ := d
  have h6 := hV.2.2.1
  refine e_c7_take (fun u1 g1 u2 g2 u3 g3 u4 g4 u5 g5 u6 g6 u7 g7 u8 g8 u9 g9 => ?_)
  have a1 : ∀ a j, a ≠ 21 → rI u1 a j = rI s a j := fun a j q => by rw [g1, rI_wI, if_neg (by omega)]
  rw [a1 7 1 (by decide)] at g2
  have a2 : ∀ a j, a ≠ 21 → rI u2 a j = rI s a j := fun a j q => by rw [g2, rI_wI, if_neg (by omega), a1 a j q]
  rw [a2 7 2 (by decide)] at g3
  have a3 : ∀ a j, a ≠ 21 → rI u3 a j = rI s a j := fun a j q => by rw [g3, rI_wI, if_neg (by omega), a2 a j q]
  rw [a3 7 3 (by decide)] at g4
  have a4 : ∀ a j, a ≠ 21 → rI u4 a j = rI s a j := fun a j q => by rw [g4, rI_wI, if_neg (by omega), a3 a j q]
  rw [a4 7 4 (by decide)] at g5
  have a5 : ∀ a j, a ≠ 21 → rI u5 a j = rI s a j := fun a j q => by rw [g5, rI_wI, if_neg (by omega), a4 a j q]
  have v5 : ∀ j, j < 5 → rI u5 21 j = rI s 7 j := fun j hj => by
    have cs : j = 0 ∨ j = 1 ∨ j = 2 ∨ j = 3 ∨ j = 4 := by omega
    rcases cs with rfl | rfl | rfl | rfl | rfl
    · rw [g5, rI_wI, if_neg (by omega), g4, rI_wI, if_neg (by omega), g3, rI_wI, if_neg (by omega), g2, rI_wI, if_neg (by omega), g1, rI_wI, if_pos ⟨rfl, rfl⟩]
    · rw [g5, rI_wI, if_neg (by omega), g4, rI_wI, if_neg (by omega), g3, rI_wI, if_neg (by omega), g2, rI_wI, if_pos ⟨rfl, rfl⟩]
    · rw [g5, rI_wI, if_neg (by omega), g4, rI_wI, if_neg (by omega), g3, rI_wI, if_pos ⟨rfl, rfl⟩]
    · rw [g5, rI_wI, if_neg (by omega), g4, rI_wI, if_pos ⟨rfl, rfl⟩]
    · rw [g5, rI_wI, if_pos ⟨rfl, rfl⟩]
  have F5 : Fr XTK s u5 := by rw [g5, g4, g3, g2, g1]; exact fr_wI (fr_wI (fr_wI (fr_wI (fr_wI fr_rf rfl) rfl) rfl) rfl) rfl
  have F9 : Fr (fun a _ => Nat.ble 22 a && Nat.ble a 25) u5 u9 := by rw [g9, g8, g7, g6]; exact fr_wC (fr_wC (fr_wC (fr_wC fr_rf (fun _ => rfl)) (fun _ => rfl)) (fun _ => rfl)) (fun _ => rfl)
  have b6 : ∀ a j, a ≠ 22 → rI u6 a j = rI u5 a j := fun a j q => by rw [g6, rI_wC, if_neg q]
  have b7 : ∀ a j, a ≠ 22 → a ≠ 23 → rI u7 a j = rI u5 a j := fun a j q q2 => by rw [g7, rI_wC, if_neg q2, b6 a j q]
  have b8 : ∀ a j, a ≠ 22 → a ≠ 23 → a ≠ 24 → rI u8 a j = rI u5 a j := fun a j q q2 q3 => by rw [g8, rI_wC, if_neg q3, b7 a j q q2]
  have v22 : ∀ k, k < 6 → rI u9 22 k = rI s 8 k := fun k hk => by
    rw [g9, rI_wC, if_neg (by decide), g8, rI_wC, if_neg (by decide), g7, rI_wC, if_neg (by decide), g6, rI_wC, if_pos rfl, cpy_r, if_pos hk, rA_r]
    exact a5 8 k (by decide)
  have v23 : ∀ k, k < 6 → rI u9 23 k = rI s 9 k := fun k hk => by
    rw [g9, rI_wC, if_neg (by decide), g8, rI_wC, if_neg (by decide), g7, rI_wC, if_pos rfl, cpy_r, if_pos hk, rA_r, b6 9 k (by decide)]
    exact a5 9 k (by decide)
  have v24 : ∀ k, k < 6 → rI u9 24 k = rI s 10 k := fun k hk => by
    rw [g9, rI_wC, if_neg (by decide), g8, rI_wC, if_pos rfl, cpy_r, if_pos hk, rA_r, b7 10 k (by decide) (by decide)]
    exact a5 10 k (by decide)
  have v25 : ∀ k, k < 25 → rI u9 25 k = rI s 11 k := fun k hk => by
    rw [g9, rI_wC, if_pos rfl, cpy_r, if_pos hk, rA_r, b8 11 k (by decide) (by decide) (by decide)]
    exact a5 11 k (by decide)
  have F59 : Fr XTK s u9 := fr_tr F5 (fr_mo F9 fun a j q => by
    simp only [Bool.and_eq_true, Nat.ble_eq] at q
    exact xtk_t (by omega))
  have c12 : foC u9 12 (dC' D).2 := foC_fr (FO_of F59) rfl (fun _ => rfl) d6
  have c15 : foC u9 15 (dL D).2 := foC_fr (FO_of F59) rfl (fun _ => rfl) d7
  refine w_takeF (by decide) hV.2.2.2.2.2.2.2.2.1.1 c12 (fun s1 F1 c26 => w_takeF (by decide) hV.2.2.2.2.2.2.2.2.2.1 (foC_fr (FO_of F1) rfl (fun _ => rfl) c15) (fun s2 F2 c29 => ?_))
  have F12 : Fr (fun a j => XTk 26 a j || XTk 29 a j) u9 s2 := fr_tr (fr_mo F1 fun a j q => by rw [q]; rfl) (fr_mo F2 fun a j q => by rw [q, Bool.or_true])
  refine h s2 (fr_tr F59 (fr_mo F12 fun a j q => ?_)) (fun j hj => ?_) (fun p hp => ?_) (fun k hk => ?_) (foC_fr (FO_of F2) rfl (fun _ => rfl) c26) c29
  · unfold XTk at q
    simp only [Bool.or_eq_true, Bool.and_eq_true, Nat.beq_eq] at q
    exact xtk_t (by omega)
  · rw [F12.1 _ _ rfl, F9.1 _ _ rfl, v5 j hj]
    exact d1 j hj
  · obtain ⟨e1, e2, e3⟩ := d4 p hp
    rw [F12.1 _ _ rfl, F12.1 _ _ rfl, F12.1 _ _ rfl, v22 p (by omega), v23 p (by omega), v24 p (by omega)]
    exact ⟨e1, e2, e3⟩
  · rw [F12.1 _ _ rfl, v25 k hk]
    exact d5 k hk
def orK (L : List Nat) : Nat → Nat
  | 0 => 0
  | k + 1 => orK L k ||| L.getD k 0
theorem orK_lt {L : List Nat} {m : Nat} (h : ∀ x ∈ L, x < 2 ^ m) : ∀ k, orK L k < 2 ^ m
  | 0 => Nat.two_pow_pos m
  | k + 1 => by
    refine Nat.or_lt_two_pow (orK_lt h k) ?_
    by_cases q : k < L.length
    · rw [getD_at q]
      exact h _ (List.getElem_mem q)
    · rw [List.getD_eq_getElem?_getD, List.getElem?_eq_none (by omega)]
      exact Nat.two_pow_pos m
def XTW (p a j : Nat) : Bool := (Nat.beq a 32 && (Nat.ble (32 * p) j && Nat.blt j (32 * p + 32))) || ((Nat.beq a 33 && Nat.beq j p) || (Nat.beq a 34 && Nat.beq j p))
theorem xtw_t {p a j : Nat} (h : (a = 32 ∧ 32 * p ≤ j ∧ j < 32 * p + 32) ∨ (a = 33 ∧ j = p) ∨ (a = 34 ∧ j = p)) : XTW p a j = true := by
  unfold XTW
  simp only [Bool.or_eq_true, Bool.and_eq_true, Nat.beq_eq, Nat.ble_eq, Nat.blt_eq]
  omega
theorem xtw_f {p a j : Nat} (h : XTW p a j = true) : (a = 32 ∧ 32 * p ≤ j ∧ j < 32 * p + 32) ∨ (a = 33 ∧ j = p) ∨ (a = 34 ∧ j = p) := by
  unfold XTW at h
  simp only [Bool.or_eq_true, Bool.and_eq_true, Nat.beq_eq, Nat.ble_eq, Nat.blt_eq] at h
  omega
theorem xtw_n {p a j : Nat} (h : ¬ ((a = 32 ∧ 32 * p ≤ j ∧ j < 32 * p + 32) ∨ (a = 33 ∧ j = p) ∨ (a = 34 ∧ j = p))) : XTW p a j = false := Bool.eq_false_iff.2 (fun y => h (xtw_f y))
def wyC (s : sT) (p : Nat) (L : List Nat) : Prop := wayC s p L ∧ rI s 34 p = nI (orK L L.length)
theorem wyC_fr {X : Nat → Nat → Bool} {s t : sT} {p : Nat} {L : List Nat} (F : Fr X s t) (h2 : ∀ j, 32 * p ≤ j → j < 32 * p + 32 → X 32 j = false) (h3 : X 33 p = false) (h4 : X 34 p = false) (h : wyC s p L) : wyC t p L := by
  obtain ⟨⟨a1, a2, a3, a4, a5⟩, a6⟩ := h
  exact ⟨⟨a1, a2, by rw [F.1 _ _ h3]; exact a3, fun k hk => by rw [F.1 _ _ (h2 _ (by omega) (by omega))]; exact a4 k hk, a5⟩, by rw [F.1 _ _ h4]; exact a6⟩
theorem w_tell {p : Nat} {L : List Nat} {Q : sT → Prop} {s : sT} (hp : p < 6) (hL : L.length ≤ 32) (h24 : ∀ x ∈ L, 0 < x ∧ x < 2 ^ 24) (A : FLc s L) (h : ∀ s', Fr (XTW p) s s' → wyC s' p L → Q s') : c7_tellWays (nI p) (nI L.length) Q s := by
  have vp6 : vp_in (nI p) 6 := vp_in_nI hp (by decide)
  refine e_c7_tellWays ⟨vp6, fun u1 h1 => ⟨vp6, fun u2 h2 => ?_⟩⟩
  rw [nI_clamp (by omega)] at h1 h2
  have F2 : Fr (XTW p) s u2 := by rw [h2, h1]; exact fr_wI (fr_wI fr_rf (xtw_t (by omega))) (xtw_t (by omega))
  have e33 : rI u2 33 p = nI L.length := by rw [h2, rI_wI, if_neg (by omega), h1, rI_wI, if_pos ⟨rfl, rfl⟩]
  have main : ∀ m k t, k + m = L.length → Fr (fun a j => XTW p a j && !Nat.beq a 33) u2 t → rI t 34 p = nI (orK L k) → (∀ j (hj : j < L.length), j < k → rI t 32 (32 * p + j) = nI L[j]) → c7_tellWays_17 (nI p) (nI L.length) (nI k) Q t := by
    intro m
    induction m with
    | zero =>
      intro k t e F g3 g
      have hk : k = L.length := by omega
      subst hk
      have F' : Fr (XTW p) u2 t := fr_mo F fun a j q => by
        rw [Bool.and_eq_true] at q
        exact q.1
      refine e_c7_tellWays_17 (br_f (nI_nlt (Nat.le_refl _) (by omega)) (h t (fr_tr F2 F') ⟨⟨hp, hL, ?_, fun k hk => g k hk hk, h24⟩, g3⟩))
      have x33 : (XTW p 33 p && !Nat.beq 33 33) = false := by rw [show (!Nat.beq 33 33) = false from rfl, Bool.and_false]
      rw [F.1 33 p x33]
      exact e33
    | succ m ih =>
      intro k t e F g3 g
      have hk : k < L.length := by omega
      have F' : Fr (XTW p) u2 t := fr_mo F fun a j q => by
        rw [Bool.and_eq_true] at q
        exact q.1
      have e37 : rI t 37 k = nI L[k] := by rw [F'.1 37 k (xtw_n (by omega)), F2.1 37 k (xtw_n (by omega))]; exact A.2 k hk
      refine e_c7_tellWays_17 (br_t (nI_lt hk (by omega)) (br_t (nI_lt (b := 32) (by omega) (by decide)) ⟨vp_in_nI (by omega) (by decide), ?_⟩))
      rw [show (32 : Int32) = nI 32 from rfl, pk_mul, nI_add, nI_clamp (by omega), nI_clamp (by omega), nI_clamp (by omega), e37]
      refine ⟨vp_in_nI (by omega) (by decide), fun v1 k1 => ⟨vp6, vp_in_nI (by omega) (by decide), vp6, fun v2 k2 => ?_⟩⟩
      have w34 : rI v1 34 p = nI (orK L k) := by rw [k1, rI_wI, if_neg (by omega)]; exact g3
      have w37 : rI v1 37 k = nI L[k] := by rw [k1, rI_wI, if_neg (by omega)]; exact e37
      rw [w34, w37, nI_or] at k2
      rw [nI_1]
      have eo : orK L (k + 1) = orK L k ||| L[k] := by
        show orK L k ||| L.getD k 0 = _
        rw [getD_at hk]
      refine ih (k + 1) v2 (by omega) ?_ (by rw [k2, rI_wI, if_pos ⟨rfl, rfl⟩, eo]) (fun j hj hj2 => ?_)
      · rw [k2, k1]
        refine fr_wI (fr_wI F ?_) ?_
        · show (XTW p 32 (p * 32 + k) && !Nat.beq 32 33) = true
          rw [xtw_t (by omega)]
          rfl
        · show (XTW p 34 p && !Nat.beq 34 33) = true
          rw [xtw_t (by omega)]
          rfl
      · rw [k2, rI_wI, if_neg (by omega), k1, rI_wI]
        by_cases y : j = k
        · subst y
          rw [if_pos ⟨rfl, by omega⟩]
        · rw [if_neg (by omega)]
          exact g j hj (by omega)
  exact main L.length 0 u2 (Nat.zero_add _) fr_rf (by rw [h2, rI_wI, if_pos ⟨rfl, rfl⟩]; rfl) (fun j hj hj2 => absurd hj2 (Nat.not_lt_zero _))
/-- the writings of each due -/
def dWr (D : dT) (p : Nat) : List Nat := wrs (dM D 0) (dM D 1) (un (dTp D p) (dBt D p))
theorem dWr_len {D : dT} (hV : dOK D) (p : Nat) : (dWr D p).length ≤ 32 := by
  obtain ⟨⟨f1, f2⟩, ⟨m1, m2⟩, -⟩ := hV
  unfold dWr
  rcases Nat.eq_zero_or_pos (un (dTp D p) (dBt D p)) with q | q
  · rw [q]
    have e : wrs (dM D 0) (dM D 1) 0 = [] := wsL_0 f2 (dM D 0) (dM D 1) 0 (Nat.le_refl _)
    rw [e]
    exact Nat.zero_le _
  · exact wrs_32 f2 m2 q
def XOC (a j : Nat) : Bool := Nat.beq a 32 || (Nat.beq a 33 || (Nat.beq a 34 || (Nat.beq a 37 || (Nat.beq a 35 && (Nat.beq j 3 || Nat.beq j 6)))))
theorem xoc_t {a j : Nat} (h : a = 32 ∨ a = 33 ∨ a = 34 ∨ a = 37 ∨ (a = 35 ∧ (j = 3 ∨ j = 6))) : XOC a j = true := by
  unfold XOC
  simp only [Bool.or_eq_true, Bool.and_eq_true, Nat.beq_eq]
  omega
theorem xff_f {a j : Nat} (h : XFF a j = true) : a = 37 ∨ (a = 35 ∧ (j = 3 ∨ j = 6)) := by
  unfold XFF XF at h
  simp only [Bool.or_eq_true, Bool.and_eq_true, Nat.beq_eq] at h
  omega
/-- the class lays the writings of all -/
theorem w_all54 {v : Int32} {D : dT} {Q : Int32 → sT → Prop} {s0 : sT} (hV : dOK D) (e21 : ∀ j, j < 5 → rI s0 21 j = nI (dM D j)) (e23 : ∀ p, p < dM D 2 → rI s0 23 p = nI (dTp D p) ∧ rI s0 24 p = nI (dBt D p)) (hP : prC s0) (h : ∀ s', Fr XOC s0 s' → IK s' (dM D 0) (dM D 1) → (∀ p, p < dM D 2 → wyC s' p (dWr D p)) → c9_begin (fun u6 => c3_forget (fun u7 => ∀ u8 : sT, u8 = wI u7 147 7 (0 : Int32) → Q v u8) u6) s') : ∀ m p s, p + m = dM D 2 → Fr XOC s0 s → IK s (dM D 0) (dM D 1) → (∀ q, q < p → wyC s q (dWr D q)) → c11_office_54 v (nI p) Q s := by
  obtain ⟨⟨f1, f2⟩, ⟨m1, m2⟩, o3, -, -, o6, -⟩ := id hV
  intro m
  induction m with
  | zero =>
    intro p s e F K g
    have hp : p = dM D 2 := by omega
    subst hp
    exact e_c11_office_54 (br_f (by rw [F.1 21 2 rfl, e21 2 (by decide)]; exact nI_nlt (Nat.le_refl _) (by omega)) (h s F K g))
  | succ m ih =>
    intro p s e F K g
    have hp : p < dM D 2 := by omega
    obtain ⟨-, t1, t2, b1, b2⟩ := o6 p hp
    obtain ⟨q1, q2⟩ := e23 p hp
    have vp6 : vp_in (nI p) 6 := vp_in_nI (by omega) (by decide)
    refine e_c11_office_54 (br_t (by rw [F.1 21 2 rfl, e21 2 (by decide)]; exact nI_lt hp (by omega)) ⟨vp6, vp6, ?_⟩)
    rw [nI_clamp (by omega), F.1 23 _ rfl, F.1 24 _ rfl, q1, q2]
    refine w_units (by omega) b1 (by omega) (w_findU f2 m1 m2 (by rw [F.1 _ _ rfl]; exact e21 0 (by decide)) (by rw [F.1 _ _ rfl]; exact e21 1 (by decide)) (prC_fr F (fun _ => rfl) hP) K (un_lt (by omega)) (fun s1 F1 K1 A1 => ?_))
    have F1' : Fr XOC s0 s1 := fr_tr F (fr_mo F1 fun a j q => by have := xff_f q; exact xoc_t (by omega))
    have n1 : ∀ a j, a ≠ 37 → a ≠ 35 → XFF a j = false := fun a j q1 q2 => Bool.eq_false_iff.2 (fun y => by have := xff_f y; omega)
    rw [A1.1, nI_1]
    refine w_tell (L := dWr D p) (by omega) (dWr_len hV p) (mem24 f2) A1 (fun s2 F2 w2 => ih (p + 1) s2 (by omega) (fr_tr F1' (fr_mo F2 fun a j q => by have := xtw_f q; exact xoc_t (by omega))) (IK_fr F2 (fun a j q => xtw_n ?_) K1) (fun q hq => ?_))
    · unfold fIK at q
      simp only [Bool.or_eq_true, Bool.and_eq_true, Nat.beq_eq] at q
      omega
    · by_cases y : q = p
      · rw [y]; exact w2
      · exact wyC_fr F2 (fun j j1 j2 => xtw_n (by omega)) (xtw_n (by omega)) (xtw_n (by omega)) (wyC_fr F1 (fun j _ _ => n1 _ _ (by decide) (by decide)) (n1 _ _ (by decide) (by decide)) (n1 _ _ (by decide) (by decide)) (g q (by omega)))
def w_0 (D : dT) (n : Nat) : Nat := if 1 ≤ n ∧ n ≤ 24 then dTo D n else 0
def κ_0 : kT := (0, fun _ _ => 0)
def XBG (a j : Nat) : Bool := (Nat.ble 38 a && Nat.ble a 41) || ((Nat.beq a 43 && (Nat.beq j 1 || Nat.beq j 2)) || (Nat.beq a 147 && Nat.beq j 7))
theorem xbg_t {a j : Nat} (h : (38 ≤ a ∧ a ≤ 41) ∨ (a = 43 ∧ (j = 1 ∨ j = 2)) ∨ (a = 147 ∧ j = 7)) : XBG a j = true := by
  unfold XBG
  simp only [Bool.or_eq_true, Bool.and_eq_true, Nat.beq_eq, Nat.ble_eq]
  omega
theorem w_beginS {v : Int32} {D : dT} {Q : Int32 → sT → Prop} {s : sT} (hV : dOK D) (e25 : ∀ k, k < 25 → rI s 25 k = nI (dTo D k)) (h : ∀ s', Fr XBG s s' → StW s' 38 (w_0 D) → KpC s' 38 κ_0 → rI s' 43 1 = 0 → rI s' 43 2 = 0 → rI s' 147 7 = 0 → Q v s') : c9_begin (fun u6 => c3_forget (fun u7 => ∀ u8 : sT, u8 = wI u7 147 7 (0 : Int32) → Q v u8) u6) s := by
  refine e_c9_begin (fun u1 h1 u2 h2 => ?_)
  have F2 : Fr XBG s u2 := by rw [h2, h1]; exact fr_wC (fr_wI fr_rf rfl) (fun _ => rfl)
  have e0 : rI u2 38 0 = 0 := by rw [h2, rI_wC, if_neg (by decide), h1, rI_wI, if_pos ⟨rfl, rfl⟩]
  have e39 : ∀ k, k < 25 → rI u2 39 k = nI (dTo D k) := fun k hk => by
    rw [h2, rI_wC, if_pos rfl, cpy_r, if_pos hk, rA_r, h1, rI_wI, if_neg (by omega)]
    exact e25 k hk
  have main : ∀ m k t, k + m = 6 → Fr (fun a _ => Nat.beq a 40 || Nat.beq a 41) u2 t → (∀ p, p < k → rI t 40 p = 0 ∧ rI t 41 p = 0) → c9_begin_22 (nI k) (fun u6 => c3_forget (fun u7 => ∀ u8 : sT, u8 = wI u7 147 7 (0 : Int32) → Q v u8) u6) t := by
    intro m
    induction m with
    | zero =>
      intro k t e F g
      have hk : k = 6 := by omega
      subst hk
      refine e_c9_begin_22 (br_f (by decide) (e_c9_forgetKept (fun u3 h3 u4 h4 => e_c3_forget (fun u5 h5 u6 h6 u7 h7 => ?_))))
      have F7 : Fr (fun a j => (Nat.beq a 38 && (Nat.beq j 5 || Nat.beq j 6)) || (Nat.beq a 43 || Nat.beq a 147)) t u7 := by rw [h7, h6, h5, h4, h3]; exact fr_wI (fr_wI (fr_wI (fr_wI (fr_wI fr_rf rfl) rfl) rfl) rfl) rfl
      have FB : Fr XBG s u7 := fr_tr F2 (fr_tr (fr_mo F fun a j q => by
        simp only [Bool.or_eq_true, Nat.beq_eq] at q
        exact xbg_t (by omega)) (by rw [h7, h6, h5, h4, h3]; exact fr_wI (fr_wI (fr_wI (fr_wI (fr_wI fr_rf rfl) rfl) rfl) rfl) rfl))
      have z25 : ∀ p, w_0 D (25 + 2 * p) = 0 := fun p => if_neg (by omega)
      have z26 : ∀ p, w_0 D (26 + 2 * p) = 0 := fun p => if_neg (by omega)
      refine h u7 FB ⟨?_, ?_, fun n n1 n2 => ?_, fun p hp => ?_, fun p hp => ?_⟩ ⟨?_, Nat.zero_le _, 0, by decide, ?_, fun k hk => absurd hk (Nat.not_lt_zero _)⟩ ?_ ?_ ?_
      · rw [F7.1 _ _ rfl, F.1 _ _ rfl, e0]; rfl
      · rw [F7.1 _ _ rfl, F.1 _ _ rfl, e39 0 (by decide), hV.2.2.2.2.2.2.2.1 0 (Or.inl rfl)]; rfl
      · rw [F7.1 _ _ rfl, F.1 _ _ rfl, e39 n n2]
        unfold w_0
        rw [if_pos ⟨n1, by omega⟩]
      · rw [F7.1 _ _ rfl, (g p hp).1, z25]; rfl
      · rw [F7.1 _ _ rfl, (g p hp).2, z26]; rfl
      · rw [h7, rI_wI, if_neg (by omega), h6, rI_wI, if_neg (by omega), h5, rI_wI, if_neg (by omega), h4, rI_wI, if_pos ⟨rfl, rfl⟩]; rfl
      · rw [h7, rI_wI, if_neg (by omega), h6, rI_wI, if_neg (by omega), h5, rI_wI, if_neg (by omega), h4, rI_wI, if_neg (by omega), h3, rI_wI, if_pos ⟨rfl, rfl⟩]; rfl
      · rw [h7, rI_wI, if_neg (by omega), h6, rI_wI, if_neg (by omega), h5, rI_wI, if_pos ⟨rfl, rfl⟩]
      · rw [h7, rI_wI, if_neg (by omega), h6, rI_wI, if_pos ⟨rfl, rfl⟩]
      · rw [h7, rI_wI, if_pos ⟨rfl, rfl⟩]
    | succ m ih =>
      intro k t e F g
      have vp6 : vp_in (nI k) 6 := vp_in_nI (by omega) (by decide)
      refine e_c9_begin_22 (br_t (nI_lt (b := 6) (by omega) (by decide)) ⟨vp6, fun v1 k1 => ⟨vp6, fun v2 k2 => ?_⟩⟩)
      rw [nI_clamp (by omega)] at k1 k2
      rw [nI_1]
      refine ih (k + 1) v2 (by omega) (by rw [k2, k1]; exact fr_wI (fr_wI F rfl) rfl) (fun p hp => ?_)
      have i41 : rI v1 41 p = rI t 41 p := by rw [k1, rI_wI, if_neg (by omega)]
      have j40 : rI v2 40 p = if p = k then 0 else rI t 40 p := by
        rw [k2, rI_wI, if_neg (by omega), k1, rI_wI]
        simp only [true_and]
      have j41 : rI v2 41 p = if p = k then 0 else rI t 41 p := by
        rw [k2, rI_wI, i41]
        simp only [true_and]
      rw [j40, j41]
      by_cases y : p = k
      · rw [if_pos y, if_pos y]
        exact ⟨rfl, rfl⟩
      · rw [if_neg y, if_neg y]
        exact g p (by omega)
  exact main 6 0 u2 rfl fr_rf (fun p hp => absurd hp (Nat.not_lt_zero _))
