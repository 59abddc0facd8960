theorem wsL_mem {fin : Nat} {x : Nat} : ∀ k m rest set, k ≤ fin → set < 2 ^ (fin - k) → x ∈ wsL fin k m rest set → 0 < x ∧ x < 2 ^ fin
  | 0, _, _, _, _, _, h => by cases h
  | k + 1, m, rest, set, hk, hs, h => by
    have hs2 : set ||| 2 ^ (fin - k - 1) < 2 ^ (fin - k) := or_lt (n := 0) hs hk
    have hs3 : set < 2 ^ (fin - k) := Nat.lt_trans hs (Nat.pow_lt_pow_right (by decide) (by omega))
    have hp : 0 < set ||| 2 ^ (fin - k - 1) := by
      have h1 : 2 ^ (fin - k - 1) ≤ set ||| 2 ^ (fin - k - 1) := Nat.right_le_or
      have := Nat.two_pow_pos (fin - k - 1)
      omega
    have hb : 2 ^ (fin - k) ≤ 2 ^ fin := Nat.pow_le_pow_right (by decide) (by omega)
    unfold wsL at h
    split at h
    · cases h
    split at h
    · rcases List.mem_cons.1 h with q | q
      · subst q
        exact ⟨hp, by omega⟩
      · exact wsL_mem k m rest set (by omega) hs3 q
    split at h
    · rcases List.mem_append.1 h with q | q
      · exact wsL_mem k (m - 1) _ _ (by omega) hs2 q
      · exact wsL_mem k m rest set (by omega) hs3 q
    · exact wsL_mem k m rest set (by omega) hs3 h
theorem wrs_mem {fin most U x : Nat} (h : x ∈ wrs fin most U) : 0 < x ∧ x < 2 ^ fin := wsL_mem fin most U 0 (Nat.le_refl _) (by simp) h
theorem wrs_len {fin most U : Nat} (hf : fin ≤ 24) (hm : most ≤ 6) : (wrs fin most U).length ≤ 32 := by
  rcases Nat.eq_zero_or_pos U with q | q
  · rw [q]
    have e : wrs fin most 0 = [] := wsL_0 hf fin most 0 (Nat.le_refl _)
    rw [e]
    exact Nat.zero_le _
  · exact wrs_32 hf hm q
-- the shortest
def shL : List Nat → Nat → Nat
  | [], b => b
  | x :: r, b => shL r (if b = 0 ∨ pcH 24 x < pcH 24 b then x else b)
theorem w_shC {l : List Nat} {Q : Int32 → sT → Prop} {s : sT} (A : FLc s l) (h32 : l.length ≤ 32) (hx : ∀ x ∈ l, 0 < x ∧ x < 2 ^ 24) : ∀ (r : List Nat) (k b : Nat), l.drop k = r → k ≤ l.length → b < 2 ^ 24 → Q (nI (shL r b)) s → c1_shortestSet_11 (nI b) (nI k) Q s
  | [], k, b, e, hk, hb, h => by
    have := drop_nil e hk
    exact e_c1_shortestSet_11 (br_f (by rw [A.1]; exact nI_nlt (by omega) (by omega)) h)
  | x :: r, k, b, e, hk, hb, h => by
    obtain ⟨g1, g2, g3⟩ := drop_ix e
    have hxm := hx x (g2 ▸ List.getElem_mem g1)
    have e37 : rI s 37 k = nI x := by rw [A.2 k g1, g2]
    have p1 := pcH_le 24 x
    have p2 := pcH_le 24 b
    unfold shL at h
    refine e_c1_shortestSet_11 (br_t (by rw [A.1]; exact nI_lt g1 (by omega)) ?_)
    rw [nI_clamp (by omega), e37, nI_1]
    refine br_c (fun q => ⟨vp_in_nI (by omega) (by decide), fun y hy => ?_⟩) (fun q => ⟨vp_in_nI (by omega) (by decide), w_bitC hxm.2 (w_bitC hb (br_c (fun q2 => ⟨vp_in_nI (by omega) (by decide), fun y hy => ?_⟩) (fun q2 => ?_)))⟩)
    · rw [show (0 : Int32) = nI 0 from rfl, nI_eq (by omega) (by decide)] at q
      rw [if_pos (Or.inl q)] at h
      rw [hy]
      exact w_shC A h32 hx r (k + 1) x g3 g1 hxm.2 h
    · rw [nI_ltI (by omega) (by omega)] at q2
      rw [if_pos (Or.inr q2)] at h
      rw [hy, e37]
      exact w_shC A h32 hx r (k + 1) x g3 g1 hxm.2 h
    · rw [show (0 : Int32) = nI 0 from rfl, nI_eq (by omega) (by decide)] at q
      rw [nI_ltI (by omega) (by omega)] at q2
      rw [if_neg (by omega)] at h
      exact w_shC A h32 hx r (k + 1) b g3 g1 hb h
def noN (b : Nat) : Int32 := if b = 0 then -1 else nI b
theorem neg1_ne {n : Nat} (h : n < 2147483648) : ¬ nI n = (-1 : Int32) := fun z => by
  have := congrArg Int32.toInt z
  rw [nI_toInt (by omega)] at this
  have e : ((-1 : Int32)).toInt = -1 := rfl
  omega
theorem w_shR {l : List Nat} {Q : Int32 → sT → Prop} {s : sT} (A : FLr s l) (h32 : l.length ≤ 32) (hx : ∀ x ∈ l, 0 < x ∧ x < 2 ^ 24) : ∀ (r : List Nat) (k b : Nat), l.drop k = r → k ≤ l.length → b < 2 ^ 24 → Q (noN (shL r b)) s → c12_shortestFound_4 (noN b) (nI k) Q s
  | [], k, b, e, hk, hb, h => by
    have := drop_nil e hk
    exact e_c12_shortestFound_4 (br_f (by rw [A.1]; exact nI_nlt (by omega) (by omega)) h)
  | x :: r, k, b, e, hk, hb, h => by
    obtain ⟨g1, g2, g3⟩ := drop_ix e
    have hxm := hx x (g2 ▸ List.getElem_mem g1)
    have e37 : rI s 201 k = nI x := by rw [A.2 k g1, g2]
    have p1 := pcH_le 24 x
    have p2 := pcH_le 24 b
    have nx : noN x = nI x := if_neg (by omega)
    have go : ∀ b', b' < 2 ^ 24 → Q (noN (shL r b')) s → c12_shortestFound_4 (noN b') (nI (k + 1)) Q s := fun b' hb' h' => w_shR A h32 hx r (k + 1) b' g3 g1 hb' h'
    unfold shL at h
    refine e_c12_shortestFound_4 (br_t (by rw [A.1]; exact nI_lt g1 (by omega)) ?_)
    rw [nI_clamp (by omega), e37, nI_1]
    by_cases q : b = 0
    · rw [if_pos (Or.inl q)] at h
      refine br_t (if_pos q) ⟨vp_in_nI (by omega) (by decide), fun y hy => ?_⟩
      rw [hy, ← nx]
      exact go x hxm.2 h
    · have nb : noN b = nI b := if_neg q
      rw [nb]
      refine br_f (neg1_ne (by omega)) ⟨vp_in_nI (by omega) (by decide), w_bits hxm.2 (w_bits hb (br_c (fun q2 => ⟨vp_in_nI (by omega) (by decide), fun y hy => ?_⟩) (fun q2 => ?_)))⟩
      · rw [nI_ltI (by omega) (by omega)] at q2
        rw [if_pos (Or.inr q2)] at h
        rw [hy, e37, ← nx]
        exact go x hxm.2 h
      · rw [nI_ltI (by omega) (by omega)] at q2
        rw [if_neg (by omega)] at h
        rw [← nb]
        exact go b hb h
theorem shL_lt : ∀ (l : List Nat) (b : Nat), (∀ x ∈ l, 0 < x ∧ x < 2 ^ 24) → b < 2 ^ 24 → shL l b < 2 ^ 24
  | [], b, _, h => h
  | x :: r, b, hx, h => by
    unfold shL
    refine shL_lt r _ (fun y hy => hx y (List.mem_cons_of_mem _ hy)) ?_
    split
    · exact (hx x List.mem_cons_self).2
    · exact h
theorem sonC {b : Nat} {Q : Int32 → sT → Prop} {s : sT} (hb : b < 2 ^ 24) (h : Q (noN b) s) : c11_setOrNone (nI b) Q s := by
  unfold noN at h
  refine e_c11_setOrNone (br_c (fun q => ?_) (fun q => ?_))
  · rw [show (0 : Int32) = nI 0 from rfl, nI_ltI (by decide) (by omega)] at q
    rw [if_neg (by omega)] at h
    exact h
  · rw [show (0 : Int32) = nI 0 from rfl, nI_ltI (by decide) (by omega)] at q
    rw [if_pos (by omega)] at h
    exact h
theorem mem24 {fin most U : Nat} (hf : fin ≤ 24) : ∀ x ∈ wrs fin most U, 0 < x ∧ x < 2 ^ 24 := fun x hx => ⟨(wrs_mem hx).1, Nat.lt_of_lt_of_le (wrs_mem hx).2 (Nat.pow_le_pow_right (by decide) hf)⟩
/-- the shortest writing: class, then reference -/
theorem w_shortC {fin most : Nat} {v : Int64} {U : Nat} {Q : Int32 → sT → Prop} {s : sT} (hf : fin ≤ 24) (hm1 : 1 ≤ most) (hm : most ≤ 6) (hF : rI s 21 0 = nI fin) (hM : rI s 21 1 = nI most) (hP : prC s) (K : IK s fin most) (h45 : U < 2 ^ 45) (hv : v = lN U ∨ (v.toInt ≤ 0 ∧ U = 0)) (h : ∀ s', Fr XFF s s' → IK s' fin most → Q (nI (shL (wrs fin most U) 0)) s') : c1_shortestSet v Q s := by
  have key : ∀ s' (y : Int32), Fr XFF s s' → IK s' fin most → FLc s' (wrs fin most U) → c1_shortestSet_11 (0 : Int32) (0 : Int32) Q s' := fun s' _ F K' A => w_shC A (wrs_len hf hm) (mem24 hf) (wrs fin most U) 0 0 rfl (Nat.zero_le _) (by decide) (h s' F K')
  refine e_c1_shortestSet ?_
  rcases hv with rfl | ⟨hv, rfl⟩
  · exact w_findU hf hm1 hm hF hM hP K h45 (fun s' F K' A => key s' (nI 0) F K' A)
  · refine w_find0 K hv (fun s' F K' A => key s' (nI 0) F K' ?_)
    have e : wrs fin most 0 = [] := wsL_0 hf fin most 0 (Nat.le_refl _)
    rw [e]
    exact A
theorem w_shortR {fin most : Nat} {v : Int64} {U : Nat} {Q : Int32 → sT → Prop} {s : sT} (hf : fin ≤ 24) (hm1 : 1 ≤ most) (hm : most ≤ 6) (hF : rI s 193 5 = nI fin) (ht : rI s 162 49 = 1) (h6 : rI s 193 6 = nI most) (h45 : U < 2 ^ 45) (hv : v = lN U ∨ (v.toInt ≤ 0 ∧ U = 0)) (h : ∀ s', Fr XL s s' → Q (noN (shL (wrs fin most U) 0)) s') : c12_laysWritings v (fun u => c12_shortestFound Q u) s := by
  have key : ∀ s', Fr XL s s' → FLr s' (wrs fin most U) → c12_shortestFound Q s' := fun s' F A => e_c12_shortestFound (w_shR A (wrs_len hf hm) (mem24 hf) (wrs fin most U) 0 0 rfl (Nat.zero_le _) (by decide) (h s' F))
  rcases hv with rfl | ⟨hv, rfl⟩
  · exact w_laysU hf hm1 hm hF ht h6 h45 key
  · refine w_lays0 hv (fun s' F A => key s' F ?_)
    have e : wrs fin most 0 = [] := wsL_0 hf fin most 0 (Nat.le_refl _)
    rw [e]
    exact A
theorem op_shortest {s : sT} (v x : Int32) (I : Inv s) : two Inv (c11_shortest v x) (c12_shortest v x) s := by
  obtain ⟨fin, most, ppl, bk, mi, L, lc, cc, w, κ, I⟩ := I
  obtain ⟨⟨c1, -⟩, io, -, -, -, ik⟩ := id I
  obtain ⟨-, m1, m6, -, eM, -, -, OC, OR, -⟩ := id io
  have h24 := OC.1
  by_cases hn : okS fin v x
  · obtain ⟨hf, a, b, a1, a2, b1, b2, rfl, rfl⟩ := hn
    obtain ⟨-, ht, h6⟩ := IO_told io (by omega)
    refine e_c11_shortest (shC_t OC.2.2.2.1 h24 hf a1 a2 b1 b2 (yes1 (w_units a2 b1 b2 (w_shortC h24 m1 m6 OC.2.2.2.1 eM (prC_of c1) ik (un_lt a2) (Or.inl rfl) (fun s1 F1 K1 => sonC (shL_lt _ _ (mem24 h24) (by decide)) ?_)))))
    have I1 := IA_k I F1 K1
    refine e_c12_shortest (shR_t (by rw [F1.1 _ _ rfl]; exact ht) a1 a2 b1 b2 (yes1 (w_partsOf a2 b1 b2 (w_shortR h24 m1 m6 (by rw [F1.1 _ _ rfl]; exact OR.2.2.2.1) (by rw [F1.1 _ _ rfl]; exact ht) (by rw [F1.1 _ _ rfl]; exact h6) (un_lt a2) (Or.inl rfl) (fun s2 F2 => ⟨rfl, IA_Inv (IA_L I1 F2)⟩)))))
  · exact e_c11_shortest (shC_f OC.2.2.2.1 h24 hn (no0 (e_c12_shortest (shR_f (fun z => (IO_not io z).2.2) hn (no0 ⟨rfl, IA_Inv I⟩)))))
-- a set of sizes
theorem setC_t {fin x : Nat} {Q : Int32 → sT → Prop} {s : sT} (hF : rI s 21 0 = nI fin) (h24 : fin ≤ 24) (h0 : 0 < x) (hx : x < 2 ^ fin) (q : Q 1 s) : c11_isSet (nI x) Q s := by
  have h24' : x < 2 ^ 24 := Nat.lt_of_lt_of_le hx (Nat.pow_le_pow_right (by decide) h24)
  refine e_c11_isSet (br_t (nI_lt (a := 0) h0 (by omega)) (br_t ?_ q))
  rw [hF, pk_shrN (by omega) (nI fin &&& 31) fin (sx31 fin (by omega)), Nat.div_eq_of_lt hx]
  rfl
theorem setC_f {fin : Nat} {v : Int32} {Q : Int32 → sT → Prop} {s : sT} (hF : rI s 21 0 = nI fin) (h24 : fin ≤ 24) (hn : ¬ ∃ x, 0 < x ∧ x < 2 ^ fin ∧ v = nI x) (q : Q 0 s) : c11_isSet v Q s := by
  refine e_c11_isSet (br_c (fun z => br_f ?_ q) (fun _ => q))
  rw [fa_lt, l0] at z
  have hb := fb_rng v
  have e : v = nI v.toInt.toNat := i_nI (by omega) (by omega)
  intro y
  rw [hF, e, pk_shrN (by omega) (nI fin &&& 31) fin (sx31 fin (by omega)), show (0 : Int32) = nI 0 from rfl, nI_eq (Nat.lt_of_le_of_lt (Nat.div_le_self _ _) (by omega)) (by decide)] at y
  refine hn ⟨v.toInt.toNat, by omega, ?_, e⟩
  have := Nat.two_pow_pos fin
  rcases Nat.lt_or_ge v.toInt.toNat (2 ^ fin) with g | g
  · exact g
  · have := Nat.div_pos g this
    omega
theorem setR_t {fin x : Nat} {Q : Int32 → sT → Prop} {s : sT} (hF : rI s 193 5 = nI fin) (h24 : fin ≤ 24) (h0 : 0 < x) (hx : x < 2 ^ fin) (q : Q 1 s) : c12_isSet (nI x) Q s := by
  have h2 : 2 ^ fin ≤ 2 ^ 24 := Nat.pow_le_pow_right (by decide) h24
  refine e_c12_isSet (br_t (nI_lt (a := 0) h0 (by omega)) (e_c12_finest (br_t ?_ q)))
  rw [hF, one_shl (by omega)]
  exact nI_lt hx (by omega)
theorem setR_f {fin : Nat} {v : Int32} {Q : Int32 → sT → Prop} {s : sT} (hF : rI s 193 5 = nI fin) (h24 : fin ≤ 24) (hn : ¬ ∃ x, 0 < x ∧ x < 2 ^ fin ∧ v = nI x) (q : Q 0 s) : c12_isSet v Q s := by
  have h2 : 2 ^ fin ≤ 2 ^ 24 := Nat.pow_le_pow_right (by decide) h24
  refine e_c12_isSet (br_c (fun z => e_c12_finest (br_f ?_ q)) (fun _ => q))
  rw [fa_lt, l0] at z
  have hb := fb_rng v
  have e : v = nI v.toInt.toNat := i_nI (by omega) (by omega)
  intro y
  rw [hF, one_shl (by omega), e, nI_ltI (by omega) (by omega)] at y
  exact hn ⟨v.toInt.toNat, by omega, y, e⟩
/-- what a set makes, in units -/
def mdS (x : Nat) : Nat → Nat
  | 0 => 0
  | n + 1 => mdS x n + (if x.testBit n = true then prt (n + 1) else 0)
theorem mdS_le (x : Nat) : ∀ n, mdS x n ≤ n * 5354228880
  | 0 => Nat.le_refl _
  | n + 1 => by
    have h1 := mdS_le x n
    have h2 := prt_le (n + 1)
    have e : (n + 1) * 5354228880 = n * 5354228880 + 5354228880 := Nat.succ_mul _ _
    rw [e]
    unfold mdS
    refine Nat.add_le_add h1 ?_
    split
    · exact h2
    · exact Nat.zero_le _
theorem mdS_fin {x fin : Nat} (hx : x < 2 ^ fin) : ∀ m, mdS x (fin + m) = mdS x fin
  | 0 => rfl
  | m + 1 => by
    rw [← Nat.add_assoc, mdS, mdS_fin hx m, t_lt hx (by omega)]
    simp
theorem w_sumC {x : Nat} {Q : Int64 → sT → Prop} {s : sT} (hx : x < 2 ^ 24) (hP : prC s) (h : Q (lN (mdS x 24)) s) : ∀ m k, k + m = 24 → c1_sumOf_5 (nI x) (lN (mdS x k)) (nI (k + 1)) Q s
  | 0, k, e => by
    have e : k = 24 := e
    subst e
    exact e_c1_sumOf_5 (br_t (by decide) h)
  | m + 1, k, e => by
    have hN := w_sumC hx hP h m (k + 1) (by omega)
    rw [mdS] at hN
    refine e_c1_sumOf_5 (br_f (nI_nlt (a := 24) (by omega) (by omega)) ?_)
    rw [nI_pred, bit_1 (by omega) (by omega), nI_1, nI_clamp (by omega)]
    refine br_c (fun q => ⟨vp_in_nI (by omega) (by decide), fun y hy => ?_⟩) (fun q => ?_)
    · rw [if_pos q] at hN
      rw [hP _ (by omega) (by omega), lN_add] at hy
      rw [hy]
      exact hN
    · rw [if_neg q, Nat.add_zero] at hN
      exact hN
theorem w_sumOfC {x : Nat} {Q : Int64 → sT → Prop} {s : sT} (hx : x < 2 ^ 24) (hP : prC s) (h : Q (lN (mdS x 24)) s) : c1_sumOf (nI x) Q s := e_c1_sumOf (w_sumC hx hP h 24 0 rfl)
theorem div24 {n : Nat} (h1 : 1 ≤ n) (h2 : n ≤ 24) : ¬ (Int32.toInt64 (nI n)) = 0 ∧ (5354228880 : Int64) / (Int32.toInt64 (nI n)) = lN (prt n) := by
  refine ⟨?_, ?_⟩
  · rw [nI_l (by omega), show (0 : Int64) = lN 0 from rfl, lN_eqB (by omega) (by decide)]
    omega
  · rw [nI_l (by omega)]
    exact lN_div (a := 5354228880) (by decide) (by omega) (by omega)
theorem w_mdR {x fin : Nat} {Q : Int64 → sT → Prop} {s : sT} (hx : x < 2 ^ 24) (hf : fin ≤ 24) (hF : rI s 193 5 = nI fin) (h : Q (lN (mdS x fin)) s) : ∀ m k, k + m = fin → c12_madeBy_5 (nI x) (lN (mdS x k)) (nI (k + 1)) Q s
  | 0, k, e => by
    have e : k = fin := e
    subst e
    exact e_c12_madeBy_5 (e_c12_finest (br_t (by rw [hF]; exact nI_lt (by omega) (by omega)) h))
  | m + 1, k, e => by
    have hN := w_mdR hx hf hF h m (k + 1) (by omega)
    rw [mdS] at hN
    obtain ⟨d1, d2⟩ := div24 (n := k + 1) (by omega) (by omega)
    refine e_c12_madeBy_5 (e_c12_finest (br_f (by rw [hF]; exact nI_nlt (by omega) (by omega)) (w_isOf hx (by omega) (by omega) ?_)))
    rw [Nat.add_sub_cancel, nI_1, d2]
    by_cases q : x.testBit k = true
    · rw [if_pos q] at hN ⊢
      refine br_f (by decide) ⟨d1, fun y hy => ?_⟩
      rw [lN_add] at hy
      rw [hy]
      exact hN
    · rw [if_neg q, Nat.add_zero] at hN
      rw [if_neg q]
      exact br_t rfl hN
theorem w_madeR {x fin : Nat} {Q : Int64 → sT → Prop} {s : sT} (hx : x < 2 ^ fin) (hf : fin ≤ 24) (hF : rI s 193 5 = nI fin) (h : Q (lN (mdS x 24)) s) : c12_madeBy (nI x) Q s := by
  have e := mdS_fin hx (24 - fin)
  rw [show fin + (24 - fin) = 24 by omega] at e
  rw [e] at h
  exact e_c12_madeBy (w_mdR (Nat.lt_of_lt_of_le hx (Nat.pow_le_pow_right (by decide) hf)) hf hF h fin 0 (Nat.zero_add _))
