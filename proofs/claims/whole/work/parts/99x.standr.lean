-- the office stands, in the reference
def XWl (a0 off N a j : Nat) : Bool := Nat.beq a a0 && (Nat.ble off j && Nat.blt j (off + N))
theorem xwl_t {a0 off N a j : Nat} (h : a = a0 ∧ off ≤ j ∧ j < off + N) : XWl a0 off N a j = true := by
  unfold XWl
  simp only [Bool.and_eq_true, Nat.beq_eq, Nat.ble_eq, Nat.blt_eq]
  exact h
theorem xwl_f {a0 off N a j : Nat} (h : XWl a0 off N a j = true) : a = a0 ∧ off ≤ j ∧ j < off + N := by
  unfold XWl at h
  simp only [Bool.and_eq_true, Nat.beq_eq, Nat.ble_eq, Nat.blt_eq] at h
  exact h
theorem xwl_n {a0 off N a j : Nat} (h : ¬ (a = a0 ∧ off ≤ j ∧ j < off + N)) : XWl a0 off N a j = false := Bool.eq_false_iff.2 (fun y => h (xwl_f y))
theorem fill_loop {W : Nat → sT → Prop} {a off N : Nat} {g : Nat → Int32} {s0 : sT} (step : ∀ k s, k < N → Fr (XWl a off N) s0 s → (∀ u, u = wI s a (off + k) (g k) → W (k + 1) u) → W k s) (fin : ∀ s, Fr (XWl a off N) s0 s → (∀ j, j < N → rI s a (off + j) = g j) → W N s) : W 0 s0 := by
  have main : ∀ m k s, k + m = N → Fr (XWl a off N) s0 s → (∀ j, j < k → rI s a (off + j) = g j) → W k s := by
    intro m
    induction m with
    | zero =>
      intro k s e F h
      have hk : k = N := by omega
      subst hk
      exact fin s F h
    | succ m ih =>
      intro k s e F h
      refine step k s (by omega) F (fun u hu => ih (k + 1) u (by omega) (by rw [hu]; exact fr_wI F (xwl_t ⟨rfl, by omega, by omega⟩)) (fun j hj => ?_))
      rw [hu, rI_wI]
      by_cases y : j = k
      · rw [if_pos ⟨rfl, by omega⟩, y]
      · rw [if_neg (by omega)]
        exact h j (by omega)
  exact main N 0 s0 (Nat.zero_add _) fr_rf (fun j hj => absurd hj (Nat.not_lt_zero _))
theorem fill_loopJ {W : Nat → sT → Prop} {a off N : Nat} {g : Nat → Int64} {s0 : sT} (step : ∀ k s, k < N → Fr (XWl a off N) s0 s → (∀ u, u = wJ s a (off + k) (g k) → W (k + 1) u) → W k s) (fin : ∀ s, Fr (XWl a off N) s0 s → (∀ j, j < N → rJ s a (off + j) = g j) → W N s) : W 0 s0 := by
  have main : ∀ m k s, k + m = N → Fr (XWl a off N) s0 s → (∀ j, j < k → rJ s a (off + j) = g j) → W k s := by
    intro m
    induction m with
    | zero =>
      intro k s e F h
      have hk : k = N := by omega
      subst hk
      exact fin s F h
    | succ m ih =>
      intro k s e F h
      refine step k s (by omega) F (fun u hu => ih (k + 1) u (by omega) (by rw [hu]; exact fr_wJ F (xwl_t ⟨rfl, by omega, by omega⟩)) (fun j hj => ?_))
      rw [hu, rJ_wJ]
      by_cases y : j = k
      · rw [if_pos ⟨rfl, by omega⟩, y]
      · rw [if_neg (by omega)]
        exact h j (by omega)
  exact main N 0 s0 (Nat.zero_add _) fr_rf (fun j hj => absurd hj (Nat.not_lt_zero _))
theorem st_7 {Q : sT → Prop} {s0 : sT} (h : ∀ s, Fr (XWl 193 5 5) s0 s → (∀ j, j < 5 → rI s 193 (5 + j) = rI s0 193 j) → c12_stands_34 (0 : Int32) Q s) : c12_stands_7 (0 : Int32) Q s0 := by
  refine fill_loop (W := fun k s => c12_stands_7 (nI k) Q s) (a := 193) (off := 5) (N := 5) (g := fun k => rI s0 193 k) (fun k s hk F g => ?_) (fun s F g => e_c12_stands_7 (br_f (by decide) (h s F g)))
  refine e_c12_stands_7 (br_t (nI_lt (b := 5) hk (by decide)) ⟨vp_in_nI (by omega) (by decide), by rw [show (5 : Int32) = nI 5 from rfl, nI_add]; exact vp_in_nI (by omega) (by decide), fun u hu => ?_⟩)
  rw [show (5 : Int32) = nI 5 from rfl, nI_add, nI_clamp (by omega), nI_clamp (by omega), F.1 _ _ (xwl_n (by omega))] at hu
  rw [nI_1]
  exact g u hu
def X34 (a j : Nat) : Bool := (Nat.beq a 197 || Nat.beq a 198) && Nat.ble 2 j
theorem st_34 {Q : sT → Prop} {s0 : sT} (h : ∀ s, Fr X34 s0 s → rI s 197 2 = rI s0 197 0 → rI s 198 2 = rI s0 198 0 → rI s 197 3 = rI s0 197 1 → rI s 198 3 = rI s0 198 1 → c12_stands_75 (0 : Int32) Q s) : c12_stands_34 (0 : Int32) Q s0 := by
  have v : ∀ k, k < 2 → vp_in (nI k) 4 := fun k hk => vp_in_nI (by omega) (by decide)
  have v2 : ∀ k, k < 2 → vp_in ((2 : Int32) + nI k) 4 := fun k hk => by rw [show (2 : Int32) = nI 2 from rfl, nI_add]; exact vp_in_nI (by omega) (by decide)
  refine e_c12_stands_34 (br_t (by decide) ⟨v 0 (by decide), v2 0 (by decide), fun u1 h1 => ⟨v 0 (by decide), v2 0 (by decide), fun u2 h2 => ?_⟩⟩)
  refine e_c12_stands_34 (br_t (by decide) ⟨v 1 (by decide), v2 1 (by decide), fun u3 h3 => ⟨v 1 (by decide), v2 1 (by decide), fun u4 h4 => ?_⟩⟩)
  refine e_c12_stands_34 (br_f (by decide) ?_)
  have c0 : (0 : Int32).toNatClampNeg = 0 := rfl
  have c1 : ((0 : Int32) + (1 : Int32)).toNatClampNeg = 1 := rfl
  have c2 : ((2 : Int32) + (0 : Int32)).toNatClampNeg = 2 := rfl
  have c3 : ((2 : Int32) + ((0 : Int32) + (1 : Int32))).toNatClampNeg = 3 := rfl
  rw [c0, c2] at h1 h2
  rw [c1, c3] at h3 h4
  have F : Fr X34 s0 u4 := by rw [h4, h3, h2, h1]; exact fr_wI (fr_wI (fr_wI (fr_wI fr_rf rfl) rfl) rfl) rfl
  have e1 : rI u1 198 0 = rI s0 198 0 := by rw [h1, rI_wI, if_neg (by omega)]
  have e2 : rI u2 197 1 = rI s0 197 1 := by rw [h2, rI_wI, if_neg (by omega), h1, rI_wI, if_neg (by omega)]
  have e3 : rI u3 198 1 = rI s0 198 1 := by rw [h3, rI_wI, if_neg (by omega), h2, rI_wI, if_neg (by omega), h1, rI_wI, if_neg (by omega)]
  rw [e1] at h2
  rw [e2] at h3
  rw [e3] at h4
  refine h u4 F ?_ ?_ ?_ ?_
  · rw [h4, rI_wI, if_neg (by omega), h3, rI_wI, if_neg (by omega), h2, rI_wI, if_neg (by omega), h1, rI_wI, if_pos ⟨rfl, rfl⟩]
  · rw [h4, rI_wI, if_neg (by omega), h3, rI_wI, if_neg (by omega), h2, rI_wI, if_pos ⟨rfl, rfl⟩]
  · rw [h4, rI_wI, if_neg (by omega), h3, rI_wI, if_pos ⟨rfl, rfl⟩]
  · rw [h4, rI_wI, if_pos ⟨rfl, rfl⟩]
theorem st_75 {Q : sT → Prop} {s0 : sT} (h : ∀ s, Fr (XWl 194 6 6) s0 s → (∀ j, j < 6 → rJ s 194 (6 + j) = rJ s0 194 j) → c12_stands_104 (0 : Int32) Q s) : c12_stands_75 (0 : Int32) Q s0 := by
  refine fill_loopJ (W := fun k s => c12_stands_75 (nI k) Q s) (a := 194) (off := 6) (N := 6) (g := fun k => rJ s0 194 k) (fun k s hk F g => ?_) (fun s F g => e_c12_stands_75 (br_f (by decide) (h s F g)))
  refine e_c12_stands_75 (br_t (nI_lt (b := 6) hk (by decide)) ⟨vp_in_nI (by omega) (by decide), by rw [show (6 : Int32) = nI 6 from rfl, nI_add]; exact vp_in_nI (by omega) (by decide), fun u hu => ?_⟩)
  rw [show (6 : Int32) = nI 6 from rfl, nI_add, nI_clamp (by omega), nI_clamp (by omega), F.2.1 _ _ (xwl_n (by omega))] at hu
  rw [nI_1]
  exact g u hu
theorem st_104 {Q : sT → Prop} {s0 : sT} (h : ∀ s, Fr (XWl 195 12 12) s0 s → (∀ j, j < 12 → rI s 195 (12 + j) = rI s0 195 j) → c12_stands_133 (0 : Int32) Q s) : c12_stands_104 (0 : Int32) Q s0 := by
  refine fill_loop (W := fun k s => c12_stands_104 (nI k) Q s) (a := 195) (off := 12) (N := 12) (g := fun k => rI s0 195 k) (fun k s hk F g => ?_) (fun s F g => e_c12_stands_104 (br_f (by decide) (h s F g)))
  refine e_c12_stands_104 (br_t (nI_lt (b := 12) hk (by decide)) ⟨vp_in_nI (by omega) (by decide), by rw [show (12 : Int32) = nI 12 from rfl, nI_add]; exact vp_in_nI (by omega) (by decide), fun u hu => ?_⟩)
  rw [show (12 : Int32) = nI 12 from rfl, nI_add, nI_clamp (by omega), nI_clamp (by omega), F.1 _ _ (xwl_n (by omega))] at hu
  rw [nI_1]
  exact g u hu
theorem st_133 {cd : Nat} {Q : sT → Prop} {s0 : sT} (hc : cd ≤ 1600) (h47 : rI s0 162 47 = nI cd) (h : ∀ s, Fr (XWl 199 1600 cd) s0 s → (∀ j, j < cd → rI s 199 (1600 + j) = rI s0 199 j) → c12_stands_165 (0 : Int32) Q s) : c12_stands_133 (0 : Int32) Q s0 := by
  refine fill_loop (W := fun k s => c12_stands_133 (nI k) Q s) (a := 199) (off := 1600) (N := cd) (g := fun k => rI s0 199 k) (fun k s hk F g => ?_) (fun s F g => e_c12_stands_133 (br_f (by rw [F.1 162 47 (xwl_n (by omega)), h47]; exact nI_nlt (Nat.le_refl _) (by omega)) (h s F g)))
  refine e_c12_stands_133 (br_t (by rw [F.1 162 47 (xwl_n (by omega)), h47]; exact nI_lt hk (by omega)) ⟨vp_in_nI (by omega) (by decide), by rw [show (1600 : Int32) = nI 1600 from rfl, nI_add]; exact vp_in_nI (by omega) (by decide), fun u hu => ?_⟩)
  rw [show (1600 : Int32) = nI 1600 from rfl, nI_add, nI_clamp (by omega), nI_clamp (by omega), F.1 _ _ (xwl_n (by omega))] at hu
  rw [nI_1]
  exact g u hu
theorem st_165 {Q : sT → Prop} {s0 : sT} (h : ∀ s, Fr (XWl 200 0 158) s0 s → (∀ j, j < 158 → rI s 200 j = 0) → c12_stands_187 (1 : Int32) Q s) : c12_stands_165 (0 : Int32) Q s0 := by
  refine fill_loop (W := fun k s => c12_stands_165 (nI k) Q s) (a := 200) (off := 0) (N := 158) (g := fun _ => 0) (fun k s hk F g => ?_) (fun s F g => e_c12_stands_165 (br_f (by decide) (h s F (fun j hj => by have := g j hj; rw [Nat.zero_add] at this; exact this))))
  refine e_c12_stands_165 (br_t (nI_lt (b := 158) hk (by decide)) ⟨vp_in_nI (by omega) (by decide), fun u hu => ?_⟩)
  rw [nI_clamp (by omega)] at hu
  rw [nI_1]
  exact g u (by rw [Nat.zero_add]; exact hu)
theorem st_187 {Q : sT → Prop} {s0 : sT} (h : ∀ s, Fr (XWl 200 1 24) s0 s → (∀ j, j < 24 → rI s 200 (1 + j) = rI s0 196 (1 + j)) → c12_stands_213 (0 : Int32) Q s) : c12_stands_187 (1 : Int32) Q s0 := by
  refine fill_loop (W := fun k s => c12_stands_187 (nI (1 + k)) Q s) (a := 200) (off := 1) (N := 24) (g := fun k => rI s0 196 (1 + k)) (fun k s hk F g => ?_) (fun s F g => e_c12_stands_187 (br_t (by decide) (h s F g)))
  refine e_c12_stands_187 (br_f (nI_nlt (a := 24) (by omega) (by decide)) ⟨vp_in_nI (by omega) (by decide), vp_in_nI (by omega) (by decide), fun u hu => ?_⟩)
  rw [nI_clamp (by omega), F.1 196 _ (xwl_n (by omega))] at hu
  rw [nI_1]
  exact g u hu
def wyR (s : sT) (p : Nat) (L : List Nat) : Prop := wayR s p L ∧ rI s 206 p = nI (orK L L.length)
theorem wyR_fr {X : Nat → Nat → Bool} {s t : sT} {p : Nat} {L : List Nat} (F : Fr X s t) (h2 : ∀ j, 2000 * p ≤ j → j < 2000 * p + 2000 → X 204 j = false) (h3 : X 205 p = false) (h4 : X 206 p = false) (h : wyR s p L) : wyR t p L := by
  obtain ⟨⟨a1, a2, a3, a4, a5⟩, a6⟩ := h
  exact ⟨⟨a1, a2, by rw [F.1 _ _ h3]; exact a3, fun k hk => by rw [F.1 _ _ (h2 _ (by omega) (by omega))]; exact a4 k hk, a5⟩, by rw [F.1 _ _ h4]; exact a6⟩
def XTR (p a j : Nat) : Bool := (Nat.beq a 204 && (Nat.ble (2000 * p) j && Nat.blt j (2000 * p + 2000))) || ((Nat.beq a 205 && Nat.beq j p) || (Nat.beq a 206 && Nat.beq j p))
theorem xtr_t {p a j : Nat} (h : (a = 204 ∧ 2000 * p ≤ j ∧ j < 2000 * p + 2000) ∨ (a = 205 ∧ j = p) ∨ (a = 206 ∧ j = p)) : XTR p a j = true := by
  unfold XTR
  simp only [Bool.or_eq_true, Bool.and_eq_true, Nat.beq_eq, Nat.ble_eq, Nat.blt_eq]
  omega
theorem xtr_f {p a j : Nat} (h : XTR p a j = true) : (a = 204 ∧ 2000 * p ≤ j ∧ j < 2000 * p + 2000) ∨ (a = 205 ∧ j = p) ∨ (a = 206 ∧ j = p) := by
  unfold XTR at h
  simp only [Bool.or_eq_true, Bool.and_eq_true, Nat.beq_eq, Nat.ble_eq, Nat.blt_eq] at h
  omega
theorem xtr_n {p a j : Nat} (h : ¬ ((a = 204 ∧ 2000 * p ≤ j ∧ j < 2000 * p + 2000) ∨ (a = 205 ∧ j = p) ∨ (a = 206 ∧ j = p))) : XTR p a j = false := Bool.eq_false_iff.2 (fun y => h (xtr_f y))
theorem r_tell {p : Nat} {L : List Nat} {Q : sT → Prop} {u2 : sT} (hp : p < 6) (hL : L.length ≤ 32) (h24 : ∀ x ∈ L, 0 < x ∧ x < 2 ^ 24) (A : FLr u2 L) (e205 : rI u2 205 p = nI L.length) (e206 : rI u2 206 p = nI 0) (h : ∀ s', Fr (XTR p) u2 s' → wyR s' p L → Q s') : c12_laysDue_48 (nI p) (0 : Int32) Q u2 := by
  have vp6 : vp_in (nI p) 6 := vp_in_nI hp (by decide)
  have main : ∀ m k t, k + m = L.length → Fr (fun a j => XTR p a j && !Nat.beq a 205) u2 t → rI t 206 p = nI (orK L k) → (∀ j (hj : j < L.length), j < k → rI t 204 (2000 * p + j) = nI L[j]) → c12_laysDue_48 (nI p) (nI k) Q t := by
    intro m
    induction m with
    | zero =>
      intro k t e F g3 g
      have hk : k = L.length := by omega
      subst hk
      have F' : Fr (XTR p) u2 t := fr_mo F fun a j q => by
        rw [Bool.and_eq_true] at q
        exact q.1
      have x33 : (XTR p 205 p && !Nat.beq 205 205) = false := by rw [show (!Nat.beq 205 205) = false from rfl, Bool.and_false]
      refine e_c12_laysDue_48 (br_f (by rw [F'.1 162 53 (xtr_n (by omega)), A.1]; exact nI_nlt (Nat.le_refl _) (by omega)) (h t F' ⟨⟨hp, hL, ?_, fun k hk => g k hk hk, h24⟩, g3⟩))
      rw [F.1 205 p x33]
      exact e205
    | succ m ih =>
      intro k t e F g3 g
      have hk : k < L.length := by omega
      have F' : Fr (XTR p) u2 t := fr_mo F fun a j q => by
        rw [Bool.and_eq_true] at q
        exact q.1
      have e37 : rI t 201 k = nI L[k] := by rw [F'.1 201 k (xtr_n (by omega))]; exact A.2 k hk
      refine e_c12_laysDue_48 (br_t (by rw [F'.1 162 53 (xtr_n (by omega)), A.1]; exact nI_lt hk (by omega)) ⟨vp_in_nI (by omega) (by decide), ?_⟩)
      rw [show (2000 : Int32) = nI 2000 from rfl, pk_mul, nI_add, nI_clamp (by omega), nI_clamp (by omega), nI_clamp (by omega), e37]
      refine ⟨vp_in_nI (by omega) (by decide), fun v1 k1 => ⟨vp6, vp_in_nI (by omega) (by decide), vp6, fun v2 k2 => ?_⟩⟩
      have w34 : rI v1 206 p = nI (orK L k) := by rw [k1, rI_wI, if_neg (by omega)]; exact g3
      have w37 : rI v1 201 k = nI L[k] := by rw [k1, rI_wI, if_neg (by omega)]; exact e37
      rw [w34, w37, nI_or] at k2
      rw [nI_1]
      have eo : orK L (k + 1) = orK L k ||| L[k] := by
        show orK L k ||| L.getD k 0 = _
        rw [getD_at hk]
      refine ih (k + 1) v2 (by omega) ?_ (by rw [k2, rI_wI, if_pos ⟨rfl, rfl⟩, eo]) (fun j hj hj2 => ?_)
      · rw [k2, k1]
        refine fr_wI (fr_wI F ?_) ?_
        · show (XTR p 204 (2000 * p + k) && !Nat.beq 204 205) = true
          rw [xtr_t (by omega)]
          rfl
        · show (XTR p 206 p && !Nat.beq 206 205) = true
          rw [xtr_t (by omega)]
          rfl
      · rw [k2, rI_wI, if_neg (by omega), k1, rI_wI]
        by_cases y : j = k
        · subst y
          rw [if_pos ⟨rfl, rfl⟩]
        · rw [if_neg (by omega)]
          exact g j hj (by omega)
  exact main L.length 0 u2 (Nat.zero_add _) fr_rf e206 (fun j hj hj2 => absurd hj2 (Nat.not_lt_zero _))
def XLD (a j : Nat) : Bool := (Nat.ble 201 a && Nat.ble a 206) || (Nat.beq a 162 && Nat.beq j 53)
theorem xld_t {a j : Nat} (h : (201 ≤ a ∧ a ≤ 206) ∨ (a = 162 ∧ j = 53)) : XLD a j = true := by
  unfold XLD
  simp only [Bool.or_eq_true, Bool.and_eq_true, Nat.beq_eq, Nat.ble_eq]
  omega
theorem xl_f {a j : Nat} (h : XL a j = true) : a = 201 ∨ a = 202 ∨ a = 203 ∨ (a = 162 ∧ j = 53) := by
  unfold XL at h
  simp only [Bool.or_eq_true, Bool.and_eq_true, Nat.beq_eq] at h
  omega
/-- the reference lays the writings of all -/
theorem r_all213 {D : dT} {Q : sT → Prop} {s0 : sT} (hV : dOK D) (h49 : rI s0 162 49 = 1) (e193 : ∀ j, j < 5 → rI s0 193 (5 + j) = nI (dM D j)) (e2 : rI s0 193 2 = nI (dM D 2)) (e195 : ∀ p, p < dM D 2 → rI s0 195 (12 + 2 * p) = nI (dTp D p) ∧ rI s0 195 (13 + 2 * p) = nI (dBt D p)) (h : ∀ s', Fr XLD s0 s' → (∀ p, p < dM D 2 → wyR s' p (dWr D p)) → ∀ u2 : sT, u2 = wI s' 162 73 (0 : Int32) → ∀ u3 : sT, u3 = wI u2 162 69 (0 : Int32) → Q u3) : ∀ m p s, p + m = dM D 2 → Fr XLD s0 s → (∀ q, q < p → wyR s q (dWr D q)) → c12_stands_213 (nI p) Q s := by
  obtain ⟨⟨f1, f2⟩, ⟨m1, m2⟩, o3, -, -, o6, -⟩ := id hV
  intro m
  induction m with
  | zero =>
    intro p s e F g
    have hp : p = dM D 2 := by omega
    subst hp
    exact e_c12_stands_213 (br_f (by rw [F.1 193 2 rfl, e2]; exact nI_nlt (Nat.le_refl _) (by omega)) (h s F g))
  | succ m ih =>
    intro p s e F g
    have hp : p < dM D 2 := by omega
    obtain ⟨-, t1, t2, b1, b2⟩ := o6 p hp
    obtain ⟨q1, q2⟩ := e195 p hp
    have vp6 : vp_in (nI p) 6 := vp_in_nI (by omega) (by decide)
    refine e_c12_stands_213 (br_t (by rw [F.1 193 2 rfl, e2]; exact nI_lt hp (by omega)) (e_c12_laysDue ?_))
    rw [show (12 : Int32) = nI 12 from rfl, show (13 : Int32) = nI 13 from rfl, show (2 : Int32) = nI 2 from rfl, pk_mul, nI_add, nI_add, nI_clamp (by omega), nI_clamp (by omega), F.1 195 _ rfl, F.1 195 _ rfl, q1, q2]
    refine ⟨vp_in_nI (by omega) (by decide), vp_in_nI (by omega) (by decide), w_partsOf (by omega) b1 (by omega) (w_laysU f2 m1 m2 (by rw [F.1 _ _ rfl]; exact e193 0 (by decide)) (by rw [F.1 _ _ rfl]; exact h49) (by rw [F.1 _ _ rfl]; exact e193 1 (by decide)) (un_lt (by omega)) (fun s1 F1 A1 => ⟨vp6, fun v1 k1 => ⟨vp6, fun v2 k2 => ?_⟩⟩))⟩
    rw [nI_clamp (by omega)] at k1 k2
    rw [A1.1] at k1
    have F2 : Fr (fun a _ => Nat.beq a 205 || Nat.beq a 206) s1 v2 := by rw [k2, k1]; exact fr_wI (fr_wI fr_rf rfl) rfl
    have G : Fr (XTR p) s1 v2 := by rw [k2, k1]; exact fr_wI (fr_wI fr_rf (xtr_t (by omega))) (xtr_t (by omega))
    have A2 : FLr v2 (dWr D p) := ⟨by rw [F2.1 _ _ rfl]; exact A1.1, fun k hk => by rw [F2.1 _ _ rfl]; exact A1.2 k hk⟩
    refine r_tell (L := dWr D p) (by omega) (dWr_len hV p) (mem24 f2) A2 (by rw [k2, rI_wI, if_neg (by omega), k1, rI_wI, if_pos ⟨rfl, rfl⟩]; rfl) (by rw [k2, rI_wI, if_pos ⟨rfl, rfl⟩]; rfl) (fun s2 F3 w2 => ?_)
    have G3 : Fr (XTR p) s1 s2 := fr_tr G F3
    have n1 : ∀ a j, 204 ≤ a → XL a j = false := fun a j q => Bool.eq_false_iff.2 (fun y => by have := xl_f y; omega)
    rw [nI_1]
    refine ih (p + 1) s2 (by omega) (fr_tr F (fr_tr (fr_mo F1 fun a j q => by have := xl_f q; exact xld_t (by omega)) (fr_mo G3 fun a j q => by have := xtr_f q; exact xld_t (by omega)))) (fun q hq => ?_)
    by_cases y : q = p
    · rw [y]; exact w2
    · exact wyR_fr G3 (fun j j1 j2 => xtr_n (by omega)) (xtr_n (by omega)) (xtr_n (by omega)) (wyR_fr F1 (fun j _ _ => n1 _ _ (by decide)) (n1 _ _ (by decide)) (n1 _ _ (by decide)) (g q (by omega)))
def XSR (a j : Nat) : Bool := (Nat.beq a 162 && (Nat.beq j 49 || (Nat.beq j 53 || (Nat.beq j 69 || Nat.beq j 73)))) || ((Nat.beq a 193 && Nat.ble 5 j) || ((Nat.beq a 194 && Nat.ble 6 j) || ((Nat.beq a 195 && Nat.ble 12 j) || (((Nat.beq a 197 || Nat.beq a 198) && Nat.ble 2 j) || ((Nat.beq a 199 && Nat.ble 1600 j) || (Nat.ble 200 a && Nat.ble a 206))))))
theorem xsr_t {a j : Nat} (h : (a = 162 ∧ (j = 49 ∨ j = 53 ∨ j = 69 ∨ j = 73)) ∨ (a = 193 ∧ 5 ≤ j) ∨ (a = 194 ∧ 6 ≤ j) ∨ (a = 195 ∧ 12 ≤ j) ∨ ((a = 197 ∨ a = 198) ∧ 2 ≤ j) ∨ (a = 199 ∧ 1600 ≤ j) ∨ (200 ≤ a ∧ a ≤ 206)) : XSR a j = true := by
  unfold XSR
  simp only [Bool.or_eq_true, Bool.and_eq_true, Nat.beq_eq, Nat.ble_eq]
  omega
theorem xsr_f {a j : Nat} (h : XSR a j = true) : (a = 162 ∧ (j = 49 ∨ j = 53 ∨ j = 69 ∨ j = 73)) ∨ (a = 193 ∧ 5 ≤ j) ∨ (a = 194 ∧ 6 ≤ j) ∨ (a = 195 ∧ 12 ≤ j) ∨ ((a = 197 ∨ a = 198) ∧ 2 ≤ j) ∨ (a = 199 ∧ 1600 ≤ j) ∨ (200 ≤ a ∧ a ≤ 206) := by
  unfold XSR at h
  simp only [Bool.or_eq_true, Bool.and_eq_true, Nat.beq_eq, Nat.ble_eq] at h
  omega
theorem r_stands {D : dT} {cd : Nat} {Q : sT → Prop} {s : sT} (hV : dOK D) (hc : cd ≤ 1600) (d : DR s D cd) (h : ∀ s', Fr XSR s s' → rI s' 162 49 = 1 → (∀ j, j < 5 → rI s' 193 (5 + j) = nI (dM D j)) → (∀ w, w < 2 → rI s' 197 (2 + w) = rI s 197 w ∧ rI s' 198 (2 + w) = rI s 198 w) → (∀ p, p < 6 → rJ s' 194 (6 + p) = rJ s 194 p) → (∀ k, k < 12 → rI s' 195 (12 + k) = rI s 195 k) → (∀ k, k < cd → rI s' 199 (1600 + k) = rI s 199 k) → (∀ k, k < 158 → rI s' 200 k = nI (w_0 D k)) → (∀ p, p < dM D 2 → wyR s' p (dWr D p)) → rI s' 162 73 = 0 → rI s' 162 69 = 0 → Q s') : c12_stands Q s := by
  obtain ⟨d1, d2, d3, d4, d5, d6⟩ := d
  have h6 := hV.2.2.1
  refine e_c12_stands (fun u1 h1 => st_7 (fun s2 F2 v2 => st_34 (fun s3 F3 v3a v3b v3c v3d => st_75 (fun s4 F4 v4 => st_104 (fun s5 F5 v5 => ?_)))))
  have F1 : Fr (fun a j => Nat.beq a 162 && Nat.beq j 49) s u1 := by rw [h1]; exact fr_wI fr_rf rfl
  refine st_133 hc (by rw [F5.1 _ _ rfl, F4.1 _ _ rfl, F3.1 _ _ rfl, F2.1 _ _ rfl, F1.1 _ _ rfl]; exact d6) (fun s6 F6 v6 => st_165 (fun s7 F7 v7 => st_187 (fun s8 F8 v8 => ?_)))
  have G2 : Fr XSR s s2 := fr_tr (fr_mo F1 fun a j q => by
    simp only [Bool.and_eq_true, Nat.beq_eq] at q
    exact xsr_t (by omega)) (fr_mo F2 fun a j q => by have := xwl_f q; exact xsr_t (by omega))
  have G3 : Fr XSR s s3 := fr_tr G2 (fr_mo F3 fun a j q => by
    unfold X34 at q
    simp only [Bool.or_eq_true, Bool.and_eq_true, Nat.beq_eq, Nat.ble_eq] at q
    exact xsr_t (by omega))
  have G4 : Fr XSR s s4 := fr_tr G3 (fr_mo F4 fun a j q => by have := xwl_f q; exact xsr_t (by omega))
  have G5 : Fr XSR s s5 := fr_tr G4 (fr_mo F5 fun a j q => by have := xwl_f q; exact xsr_t (by omega))
  have G6 : Fr XSR s s6 := fr_tr G5 (fr_mo F6 fun a j q => by have := xwl_f q; exact xsr_t (by omega))
  have G7 : Fr XSR s s7 := fr_tr G6 (fr_mo F7 fun a j q => by have := xwl_f q; exact xsr_t (by omega))
  have G8 : Fr XSR s s8 := fr_tr G7 (fr_mo F8 fun a j q => by have := xwl_f q; exact xsr_t (by omega))
  have e49 : rI s8 162 49 = 1 := by rw [F8.1 _ _ rfl, F7.1 _ _ rfl, F6.1 _ _ rfl, F5.1 _ _ rfl, F4.1 _ _ rfl, F3.1 _ _ rfl, F2.1 _ _ rfl, h1, rI_wI, if_pos ⟨rfl, rfl⟩]
  have e193 : ∀ j, j < 5 → rI s8 193 (5 + j) = nI (dM D j) := fun j hj => by
    rw [F8.1 _ _ rfl, F7.1 _ _ rfl, F6.1 _ _ rfl, F5.1 _ _ rfl, F4.1 _ _ rfl, F3.1 _ _ rfl, v2 j hj, F1.1 _ _ rfl]
    exact d1 j hj
  have e195 : ∀ k, k < 12 → rI s8 195 (12 + k) = rI s 195 k := fun k hk => by
    rw [F8.1 _ _ rfl, F7.1 _ _ rfl, F6.1 _ _ rfl, v5 k hk]
    exact G4.1 _ _ (Bool.eq_false_iff.2 (fun y => by have := xsr_f y; omega))
  have e197 : ∀ w, w < 2 → rI s8 197 (2 + w) = rI s 197 w ∧ rI s8 198 (2 + w) = rI s 198 w := fun w hw => by
    rw [F8.1 _ _ rfl, F7.1 _ _ rfl, F6.1 _ _ rfl, F5.1 _ _ rfl, F4.1 _ _ rfl, F8.1 _ _ rfl, F7.1 _ _ rfl, F6.1 _ _ rfl, F5.1 _ _ rfl, F4.1 _ _ rfl]
    have n : ∀ a j, (a = 197 ∨ a = 198) → j < 2 → XSR a j = false := fun a j q1 q2 => Bool.eq_false_iff.2 (fun y => by have := xsr_f y; omega)
    have : w = 0 ∨ w = 1 := by omega
    rcases this with rfl | rfl
    · exact ⟨v3a.trans (G2.1 _ _ (n _ _ (by omega) (by omega))), v3b.trans (G2.1 _ _ (n _ _ (by omega) (by omega)))⟩
    · exact ⟨v3c.trans (G2.1 _ _ (n _ _ (by omega) (by omega))), v3d.trans (G2.1 _ _ (n _ _ (by omega) (by omega)))⟩
  have e194 : ∀ p, p < 6 → rJ s8 194 (6 + p) = rJ s 194 p := fun p hp => by
    rw [F8.2.1 _ _ rfl, F7.2.1 _ _ rfl, F6.2.1 _ _ rfl, F5.2.1 _ _ rfl, v4 p hp]
    exact G3.2.1 _ _ (Bool.eq_false_iff.2 (fun y => by have := xsr_f y; omega))
  have e199 : ∀ k, k < cd → rI s8 199 (1600 + k) = rI s 199 k := fun k hk => by
    rw [F8.1 _ _ rfl, F7.1 _ _ rfl, v6 k hk]
    exact G5.1 _ _ (Bool.eq_false_iff.2 (fun y => by have := xsr_f y; omega))
  have e200 : ∀ k, k < 158 → rI s8 200 k = nI (w_0 D k) := fun k hk => by
    unfold w_0
    by_cases y : 1 ≤ k ∧ k ≤ 24
    · rw [if_pos y]
      have := v8 (k - 1) (by omega)
      rw [show 1 + (k - 1) = k by omega] at this
      rw [this, G7.1 _ _ (Bool.eq_false_iff.2 (fun y => by have := xsr_f y; omega))]
      exact d3 k (by omega)
    · rw [if_neg y, F8.1 _ _ (xwl_n (by omega)), v7 k hk]
      rfl
  refine r_all213 hV e49 e193 (by rw [G8.1 _ _ (Bool.eq_false_iff.2 (fun y => by have := xsr_f y; omega))]; exact d1 2 (by decide)) (fun p hp => ?_) (fun s9 F9 w9 u2 k2 u3 k3 => ?_) (dM D 2) 0 s8 (Nat.zero_add _) fr_rf (fun q hq => absurd hq (Nat.not_lt_zero _))
  · obtain ⟨-, q1, q2⟩ := d2 p hp
    have := e195 (2 * p + 1) (by omega)
    rw [show 12 + (2 * p + 1) = 13 + 2 * p by omega] at this
    rw [e195 (2 * p) (by omega), this]
    exact ⟨q1, q2⟩
  · have Fu : Fr (fun a j => Nat.beq a 162 && (Nat.beq j 73 || Nat.beq j 69)) s9 u3 := by rw [k3, k2]; exact fr_wI (fr_wI fr_rf rfl) rfl
    have G9 : Fr XSR s u3 := fr_tr G8 (fr_tr (fr_mo F9 fun a j q => by
      unfold XLD at q
      simp only [Bool.or_eq_true, Bool.and_eq_true, Nat.beq_eq, Nat.ble_eq] at q
      exact xsr_t (by omega)) (by rw [k3, k2]; exact fr_wI (fr_wI fr_rf rfl) rfl))
    refine h u3 G9 ?_ (fun j hj => ?_) (fun w hw => ?_) (fun p hp => ?_) (fun k hk => ?_) (fun k hk => ?_) (fun k hk => ?_) (fun p hp => wyR_fr Fu (fun _ _ _ => rfl) rfl rfl (w9 p hp)) ?_ ?_
    · rw [Fu.1 _ _ rfl, F9.1 _ _ rfl]; exact e49
    · rw [Fu.1 _ _ rfl, F9.1 _ _ rfl]; exact e193 j hj
    · rw [Fu.1 _ _ rfl, F9.1 _ _ rfl, Fu.1 _ _ rfl, F9.1 _ _ rfl]; exact e197 w hw
    · rw [Fu.2.1 _ _ rfl, F9.2.1 _ _ rfl]; exact e194 p hp
    · rw [Fu.1 _ _ rfl, F9.1 _ _ rfl]; exact e195 k hk
    · rw [Fu.1 _ _ rfl, F9.1 _ _ rfl]; exact e199 k hk
    · rw [Fu.1 _ _ rfl, F9.1 _ _ rfl]; exact e200 k hk
    · rw [k3, rI_wI, if_neg (by omega), k2, rI_wI, if_pos ⟨rfl, rfl⟩]
    · rw [k3, rI_wI, if_pos ⟨rfl, rfl⟩]
