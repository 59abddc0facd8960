/-- the next of the seeds -/
def lcg (n : Nat) : Nat := (1103515245 * n + 12345) % 2147483648
theorem lcg_lt (n : Nat) : lcg n < 2147483648 := Nat.mod_lt _ (by decide)
theorem w_drawC {n k : Nat} {Q : Int32 → sT → Prop} {s : sT} (hn : n < 2147483648) (hs : rI s 0 15 = nI n) (k1 : 1 ≤ k) (k2 : k ≤ 100) (h : ∀ u, u = wI s 0 15 (nI (lcg n)) → Q (nI (lcg n / 64 % k)) u) : c11_draw (nI k) Q s := by
  have hl := lcg_lt n
  refine e_c11_draw (fun u hu => ?_)
  have e : Int64.toInt32 ((((1103515245 : Int64) * (Int32.toInt64 (rI s 0 15))) + (12345 : Int64)) &&& (2147483647 : Int64)) = nI (lcg n) := by
    rw [hs, nI_l (by omega), show (1103515245 : Int64) = lN 1103515245 from rfl, lN_mul, show (12345 : Int64) = lN 12345 from rfl, lN_add, show (2147483647 : Int64) = lN (2 ^ 31 - 1) from rfl, fb_maskL, lN_i]
    rfl
  rw [e] at hu
  have hd : lcg n / 64 < 2147483648 := Nat.lt_of_le_of_lt (Nat.div_le_self _ _) hl
  refine br_t (nI_pos0 k1 (by omega)) ⟨nI_ne0 k1 (by omega), ?_⟩
  rw [hu, rI_wI, if_pos ⟨rfl, rfl⟩, show (64 : Int32) = nI 64 from rfl, pk_div (by omega) (by decide) (by decide), pk_rem (by omega) (by omega) (by omega)]
  exact h _ rfl
where
  nI_pos0 {k : Nat} (h1 : 1 ≤ k) (h2 : k < 2147483648) : (0 : Int32) < nI k := nI_lt (a := 0) h1 h2
  nI_ne0 {k : Nat} (h1 : 1 ≤ k) (h2 : k < 2147483648) : ¬ nI k = (0 : Int32) := fun z => by
    rw [show (0 : Int32) = nI 0 from rfl, nI_eq h2 (by decide)] at z
    omega
theorem w_drawR {n k : Nat} {Q : Int32 → sT → Prop} {s : sT} (hn : n < 2147483648) (hs : rJ s 162 75 = lN n) (k1 : 1 ≤ k) (k2 : k ≤ 100) (h : ∀ u, u = wJ s 162 75 (lN (lcg n)) → Q (nI (lcg n / 64 % k)) u) : c12_drawOf (nI k) Q s := by
  have hl := lcg_lt n
  refine e_c12_drawOf (fun u hu => ?_)
  rw [hs, show (1103515245 : Int64) = lN 1103515245 from rfl, lN_mul, show (12345 : Int64) = lN 12345 from rfl, lN_add, show (2147483648 : Int64) = lN 2147483648 from rfl, pk_lRem (by omega) (by decide) (by decide)] at hu
  have hu : u = wJ s 162 75 (lN (lcg n)) := hu
  have hd : lcg n / 64 < 2147483648 := Nat.lt_of_le_of_lt (Nat.div_le_self _ _) hl
  rw [nI_l (by omega)]
  refine ⟨fun z => ?_, ?_⟩
  · rw [show (0 : Int64) = lN 0 from rfl, lN_eqB (by omega) (by decide)] at z
    omega
  · rw [hu, rJ_wJ, if_pos ⟨rfl, rfl⟩, show (64 : Int64) = lN 64 from rfl, pk_lDiv (by omega) (by decide) (by decide), pk_lRem (by omega) (by omega) (by omega), lN_i]
    exact h _ rfl
/-- numbers, what went, the seed behind a day's mice -/
def chW (fin mi : Nat) (w : Nat → Nat) (n : Nat) : (Nat → Nat) × Nat × Nat :=
  if lcg n / 64 % 100 < mi then
    (if w (lcg (lcg n) / 64 % fin + 1) = 0 then (w, 0, lcg (lcg n)) else (uN w (lcg (lcg n) / 64 % fin + 1) (w (lcg (lcg n) / 64 % fin + 1) - 1), 1, lcg (lcg n)))
  else (w, 0, lcg n)
abbrev cT : Type := (Nat → Nat) × kT × Nat × Nat
def chS (L : Nat → List Nat) (lc : List Nat) (fin ppl bk mi : Nat) (z : cT) : cT :=
  ((dayF L lc ppl bk (chW fin mi z.1 z.2.2.2).1 z.2.1).1, (dayF L lc ppl bk (chW fin mi z.1 z.2.2.2).1 z.2.1).2.1, z.2.2.1 + (chW fin mi z.1 z.2.2.2).2.1, (chW fin mi z.1 z.2.2.2).2.2)
def chI (L : Nat → List Nat) (lc : List Nat) (fin ppl bk mi : Nat) : Nat → cT → cT
  | 0, z => z
  | m + 1, z => chI L lc fin ppl bk mi m (chS L lc fin ppl bk mi z)
theorem chW_lt {fin mi : Nat} {w : Nat → Nat} {n : Nat} : (chW fin mi w n).2.2 < 2147483648 := by
  unfold chW
  split
  · split <;> exact lcg_lt _
  · exact lcg_lt _
theorem chW_0 {fin mi : Nat} {w : Nat → Nat} {n : Nat} : (chW fin mi w n).1 0 = w 0 := by
  unfold chW
  split
  · split
    · rfl
    · dsimp only
      rw [uN_ne (by omega)]
  · rfl
theorem chW_V {fin ppl mi : Nat} {w : Nat → Nat} {n : Nat} (h : wV fin ppl w) (h24 : fin ≤ 24) (h1 : 1 ≤ fin) : wV fin ppl (chW fin mi w n).1 := by
  unfold chW
  split
  · split
    · exact h
    · have := Nat.mod_lt (lcg (lcg n) / 64) (show 0 < fin by omega)
      have h2 := h.1 (lcg (lcg n) / 64 % fin + 1)
      exact uN_V h (by omega) h24 (by omega)
  · exact h
/-- what the class writes -/
def XcC (a j : Nat) : Bool := Xd 38 a j || (Nat.beq a 0 && Nat.beq j 15)
theorem xcC_d {a j : Nat} (h : Xd 38 a j = true) : XcC a j = true := by unfold XcC; rw [h]; rfl
theorem xcC_f {a j : Nat} (h : ¬ (38 ≤ a ∧ a ≤ 42)) (h1 : a ≠ 146) (h2 : a ≠ 31) (h3 : a ≠ 0 ∨ j ≠ 15) : XcC a j = false := by
  unfold XcC
  rw [xd38_f h h1 h2, Bool.false_or, Bool.eq_false_iff]
  intro z
  simp only [Bool.and_eq_true, Nat.beq_eq] at z
  omega
def XcR (a j : Nat) : Bool := Xq a j || (Nat.beq a 162 && Nat.beq j 75)
theorem xcR_q {a j : Nat} (h : Xq a j = true) : XcR a j = true := by unfold XcR; rw [h]; rfl
theorem xcR_f {a j : Nat} (h : a ≠ 239) (h2 : a ≠ 162) (h3 : a ≠ 200) : XcR a j = false := by
  unfold XcR
  rw [xq_f h h2 h3, Bool.false_or, Bool.eq_false_iff]
  intro z
  simp only [Bool.and_eq_true, Nat.beq_eq] at z
  omega
theorem OCc_c {s s' : sT} {fin ppl bk : Nat} {L : Nat → List Nat} {lc : List Nat} (h : Fr XcC s s') (C : OCc s fin ppl bk L lc) : OCc s' fin ppl bk L lc :=
  OCc_fr h (fun a j h1 h2 h3 => xcC_f (by omega) (by omega) h3 (Or.inl (by omega))) C
theorem w_chC {fin ppl bk mi n : Nat} {L : Nat → List Nat} {lc : List Nat} {Q : Int32 → sT → Prop} {s : sT} (C : OCc s fin ppl bk L lc) (hf : 1 ≤ fin) (hmi : mi ≤ 100) (hM : rI s 21 4 = nI mi) (hn : n ≤ 100) : ∀ m i (z : cT) s', i + m = n → Fr XcC s s' → StW s' 38 z.1 → KpC s' 38 z.2.1 → rI s' 0 15 = nI z.2.2.2 → z.2.2.2 < 2147483648 → wV fin ppl z.1 → z.1 0 + m ≤ 999 → (∀ s'', Fr XcC s s'' → StW s'' 38 (chI L lc fin ppl bk mi m z).1 → KpC s'' 38 (chI L lc fin ppl bk mi m z).2.1 → rI s'' 0 15 = nI (chI L lc fin ppl bk mi m z).2.2.2 → Q (nI (chI L lc fin ppl bk mi m z).2.2.1) s'') → c11_chance_29 (nI n) (nI z.2.2.1) (nI i) Q s'
  | 0, i, z, s', e, F, W, K, hS, hl, hV, h0, h => by
    have e : i = n := e
    subst e
    exact e_c11_chance_29 (br_f (nI_nlt (Nat.le_refl _) (by omega)) (h s' F W K hS))
  | m + 1, i, z, s', e, F, W, K, hS, hl, hV, h0, h => by
    have h24 := C.1
    have hVc := chW_V (mi := mi) (n := z.2.2.2) hV h24 hf
    have h0c := chW_0 (fin := fin) (mi := mi) (w := z.1) (n := z.2.2.2)
    have hlc := chW_lt (fin := fin) (mi := mi) (w := z.1) (n := z.2.2.2)
    have dayC : ∀ (g : Int32) (u : sT), g = nI (z.2.2.1 + (chW fin mi z.1 z.2.2.2).2.1) → Fr XcC s u → StW u 38 (chW fin mi z.1 z.2.2.2).1 → KpC u 38 z.2.1 → rI u 0 15 = nI (chW fin mi z.1 z.2.2.2).2.2 → c0_passDay 38 (fun y7 u8 => c11_chance_29 (nI n) g (nI i + (1 : Int32)) Q u8) u := fun g u hg Fu Wu Ku Su => by
      refine w_passDay (Or.inl rfl) (OCc_c Fu C) Wu Ku (wV_M hVc) (by omega) (fun u2 g1 g2 g3 => ?_)
      rw [hg, nI_1]
      refine w_chC C hf hmi hM hn m (i + 1) (chS L lc fin ppl bk mi z) u2 (by omega) (fr_tr Fu (fr_mo g1 fun a j q => xcC_d q)) g2 g3 ?_ hlc (dayF_V hVc h24 hf (by omega)) ?_ h
      · rw [g1.1 _ _ (xd38_f (by omega) (by omega) (by omega))]; exact Su
      · show (dayF L lc ppl bk (chW fin mi z.1 z.2.2.2).1 z.2.1).1 0 + m ≤ 999
        rw [dayF_0, h0c]
        omega
    refine e_c11_chance_29 (br_t (nI_lt (by omega) (by omega)) (w_drawC (k := 100) hl hS (by decide) (by decide) (fun u hu => ?_)))
    have r100 := Nat.mod_lt (lcg z.2.2.2 / 64) (show 0 < 100 by decide)
    have Fu : Fr XcC s u := fr_tr F (by rw [hu]; exact fr_wI fr_rf rfl)
    have Wu : StW u 38 z.1 := StW_fr (X := fun a j => Nat.beq a 0 && Nat.beq j 15) (by rw [hu]; exact fr_wI fr_rf rfl) (fun a j p q => by rw [Bool.eq_false_iff]; intro y; simp only [Bool.and_eq_true, Nat.beq_eq] at y; omega) W
    have Ku : KpC u 38 z.2.1 := KpC_fr (X := fun a j => Nat.beq a 0 && Nat.beq j 15) (by rw [hu]; exact fr_wI fr_rf rfl) (fun a j q => by rw [Bool.eq_false_iff]; intro y; simp only [Bool.and_eq_true, Nat.beq_eq] at y; omega) K
    have Su : rI u 0 15 = nI (lcg z.2.2.2) := by rw [hu, rI_wI, if_pos ⟨rfl, rfl⟩]
    rw [Fu.1 21 4 rfl, hM, nI_ltI (by omega) (by omega)]
    refine br_c (fun q => ?_) (fun q => ?_)
    · rw [Fu.1 21 0 rfl, C.2.2.2.1]
      refine w_drawC (k := fin) (lcg_lt _) Su hf (by omega) (fun v hv => ?_)
      have rf := Nat.mod_lt (lcg (lcg z.2.2.2) / 64) (show 0 < fin by omega)
      have Fv : Fr XcC s v := fr_tr Fu (by rw [hv]; exact fr_wI fr_rf rfl)
      have Wv : StW v 38 z.1 := StW_fr (X := fun a j => Nat.beq a 0 && Nat.beq j 15) (by rw [hv]; exact fr_wI fr_rf rfl) (fun a j p q => by rw [Bool.eq_false_iff]; intro y; simp only [Bool.and_eq_true, Nat.beq_eq] at y; omega) Wu
      have Kv : KpC v 38 z.2.1 := KpC_fr (X := fun a j => Nat.beq a 0 && Nat.beq j 15) (by rw [hv]; exact fr_wI fr_rf rfl) (fun a j q => by rw [Bool.eq_false_iff]; intro y; simp only [Bool.and_eq_true, Nat.beq_eq] at y; omega) Ku
      have Sv : rI v 0 15 = nI (lcg (lcg z.2.2.2)) := by rw [hv, rI_wI, if_pos ⟨rfl, rfl⟩]
      have hw := hV.1 (lcg (lcg z.2.2.2) / 64 % fin + 1)
      have hcw : chW fin mi z.1 z.2.2.2 = if z.1 (lcg (lcg z.2.2.2) / 64 % fin + 1) = 0 then (z.1, 0, lcg (lcg z.2.2.2)) else (uN z.1 (lcg (lcg z.2.2.2) / 64 % fin + 1) (z.1 (lcg (lcg z.2.2.2) / 64 % fin + 1) - 1), 1, lcg (lcg z.2.2.2)) := by
        unfold chW
        rw [if_pos q]
      rw [nI_1]
      refine e_c9_lose (br_f (nI_nlt (b := 1) (by omega) (by omega)) (br_f (nI_nlt (a := 24) (by omega) (by decide)) ⟨vp_in_nI (by omega) (by decide), ?_⟩))
      rw [nI_clamp (by omega), Wv.2.2.1 _ (by omega) (by omega), show (1 : Int32) = nI 1 from rfl, nI_ltI (by omega) (by decide)]
      refine br_c (fun q2 => no0 ?_) (fun q2 => ⟨vp_in_nI (by omega) (by decide), vp_in_nI (by omega) (by decide), fun u1 hu1 => yes1 ?_⟩)
      · rw [if_pos (by omega)] at hcw
        refine dayC _ v (by rw [hcw]; rfl) Fv (by rw [hcw]; exact Wv) Kv (by rw [hcw]; exact Sv)
      · rw [if_neg (by omega)] at hcw
        rw [pk_sub (by omega)] at hu1
        refine dayC _ u1 (by rw [hcw, nI_add]) (fr_tr Fv (by rw [hu1]; exact fr_wI fr_rf rfl)) (by rw [hcw]; exact StW_1 Wv (by omega) (by omega) hu1) (KpC_fr (X := Xst) (by rw [hu1]; exact fr_wI fr_rf rfl) (fun a j q => xst_f (by omega)) Kv) (by rw [hcw, hu1, rI_wI, if_neg (by omega)]; exact Sv)
    · have hcw : chW fin mi z.1 z.2.2.2 = (z.1, 0, lcg z.2.2.2) := by
        unfold chW
        rw [if_neg q]
      refine dayC _ u (by rw [hcw]; rfl) Fu (by rw [hcw]; exact Wu) Ku (by rw [hcw]; exact Su)
theorem w_chR {fin ppl bk mi n : Nat} {L : Nat → List Nat} {lc : List Nat} {Q : Int32 → sT → Prop} {s : sT} (C : OCr s fin ppl bk L lc) (hf : 1 ≤ fin) (hmi : mi ≤ 100) (hM : rI s 193 9 = nI mi) (h64 : rI s 162 64 = 0) (hn : n ≤ 100) : ∀ m i (z : cT) s', i + m = n → Fr XcR s s' → NwW s' z.1 → KpR s' z.2.1 → rJ s' 162 75 = lN z.2.2.2 → z.2.2.2 < 2147483648 → wV fin ppl z.1 → z.1 0 + m ≤ 999 → (∀ s'', Fr XcR s s'' → NwW s'' (chI L lc fin ppl bk mi m z).1 → KpR s'' (chI L lc fin ppl bk mi m z).2.1 → rJ s'' 162 75 = lN (chI L lc fin ppl bk mi m z).2.2.2 → Q (nI (chI L lc fin ppl bk mi m z).2.2.1) s'') → c12_chance_25 (nI n) (nI z.2.2.1) (nI i) Q s'
  | 0, i, z, s', e, F, W, K, hS, hl, hV, h0, h => by
    have e : i = n := e
    subst e
    exact e_c12_chance_25 (br_f (nI_nlt (Nat.le_refl _) (by omega)) (h s' F W K hS))
  | m + 1, i, z, s', e, F, W, K, hS, hl, hV, h0, h => by
    have h24 := C.1
    have hVc := chW_V (mi := mi) (n := z.2.2.2) hV h24 hf
    have h0c := chW_0 (fin := fin) (mi := mi) (w := z.1) (n := z.2.2.2)
    have hlc := chW_lt (fin := fin) (mi := mi) (w := z.1) (n := z.2.2.2)
    have dayR : ∀ (g : Int32) (u : sT), g = nI (z.2.2.1 + (chW fin mi z.1 z.2.2.2).2.1) → Fr XcR s u → NwW u (chW fin mi z.1 z.2.2.2).1 → KpR u z.2.1 → rJ u 162 75 = lN (chW fin mi z.1 z.2.2.2).2.2 → c12_dayGoes (fun u9 => c12_chance_25 (nI n) g (nI i + (1 : Int32)) Q u9) u := fun g u hg Fu Wu Ku Su => by
      have Cu : OCr u fin ppl bk L lc := OCr_fr Fu (fun a j q => xcR_f (by omega) (by omega) (by omega)) C
      refine w_dayGoes (th := false) Cu (by rw [Fu.1 _ _ rfl]; exact h64) fr_rf Wu ⟨(fun y => by cases y), (fun _ => Ku)⟩ (wV_M hVc) (fun u2 g1 g2 g3 _ _ => ?_)
      rw [hg, nI_1]
      refine w_chR C hf hmi hM h64 hn m (i + 1) (chS L lc fin ppl bk mi z) u2 (by omega) (fr_tr Fu (fr_mo g1 fun a j q => xcR_q q)) g2 (g3.2 rfl) ?_ hlc (dayF_V hVc h24 hf (by omega)) ?_ h
      · rw [g1.2.1 _ _ rfl]; exact Su
      · show (dayF L lc ppl bk (chW fin mi z.1 z.2.2.2).1 z.2.1).1 0 + m ≤ 999
        rw [dayF_0, h0c]
        omega
    refine e_c12_chance_25 (br_t (nI_lt (by omega) (by omega)) (w_drawR (k := 100) hl hS (by decide) (by decide) (fun u hu => ?_)))
    have r100 := Nat.mod_lt (lcg z.2.2.2 / 64) (show 0 < 100 by decide)
    have ru : ∀ a j, rI u a j = rI s' a j := fun a j => by rw [hu, rI_wJ]
    have Fu : Fr XcR s u := fr_tr F (by rw [hu]; exact fr_wJ fr_rf rfl)
    have Wu : NwW u z.1 := fun k hk => by rw [ru]; exact W k hk
    have Ku : KpR u z.2.1 := KpR_of (fun j _ => ru _ _) K
    have Su : rJ u 162 75 = lN (lcg z.2.2.2) := by rw [hu, rJ_wJ, if_pos ⟨rfl, rfl⟩]
    rw [Fu.1 193 9 rfl, hM, nI_ltI (by omega) (by omega)]
    refine br_c (fun q => e_c12_finest ?_) (fun q => ?_)
    · rw [Fu.1 193 5 rfl, C.2.2.2.1]
      refine w_drawR (k := fin) (lcg_lt _) Su hf (by omega) (fun v hv => ?_)
      have rf := Nat.mod_lt (lcg (lcg z.2.2.2) / 64) (show 0 < fin by omega)
      have rv : ∀ a j, rI v a j = rI u a j := fun a j => by rw [hv, rI_wJ]
      have Fv : Fr XcR s v := fr_tr Fu (by rw [hv]; exact fr_wJ fr_rf rfl)
      have Wv : NwW v z.1 := fun k hk => by rw [rv]; exact Wu k hk
      have Kv : KpR v z.2.1 := KpR_of (fun j _ => rv _ _) Ku
      have Sv : rJ v 162 75 = lN (lcg (lcg z.2.2.2)) := by rw [hv, rJ_wJ, if_pos ⟨rfl, rfl⟩]
      have hw := hV.1 (lcg (lcg z.2.2.2) / 64 % fin + 1)
      have hcw : chW fin mi z.1 z.2.2.2 = if z.1 (lcg (lcg z.2.2.2) / 64 % fin + 1) = 0 then (z.1, 0, lcg (lcg z.2.2.2)) else (uN z.1 (lcg (lcg z.2.2.2) / 64 % fin + 1) (z.1 (lcg (lcg z.2.2.2) / 64 % fin + 1) - 1), 1, lcg (lcg z.2.2.2)) := by
        unfold chW
        rw [if_pos q]
      rw [show (1 : Int32) + nI (lcg (lcg z.2.2.2) / 64 % fin) = nI (lcg (lcg z.2.2.2) / 64 % fin + 1) by rw [show (1 : Int32) = nI 1 from rfl, nI_add, Nat.add_comm]]
      refine e_c12_isGone ⟨vp_in_nI (by omega) (by decide), ?_⟩
      have hz0 : nI (z.1 (lcg (lcg z.2.2.2) / 64 % fin + 1)) = (0 : Int32) ↔ z.1 (lcg (lcg z.2.2.2) / 64 % fin + 1) = 0 := by
        rw [show (0 : Int32) = nI 0 from rfl]
        exact nI_eq (by omega) (by decide)
      rw [nI_clamp (by omega), Wv _ (by omega), hz0]
      refine br_c (fun q2 => no0 ?_) (fun q2 => ⟨vp_in_nI (by omega) (by decide), vp_in_nI (by omega) (by decide), fun u1 hu1 => yes1 ?_⟩)
      · rw [if_pos q2] at hcw
        refine dayR _ v (by rw [hcw]; rfl) Fv (by rw [hcw]; exact Wv) Kv (by rw [hcw]; exact Sv)
      · rw [if_neg q2] at hcw
        rw [show (1 : Int32) = nI 1 from rfl, pk_sub (by omega)] at hu1
        refine dayR _ u1 (by rw [hcw, show (1 : Int32) = nI 1 from rfl, nI_add]) (fr_tr Fv (by rw [hu1]; exact fr_wI fr_rf rfl)) (by rw [hcw]; exact NwW_1 Wv hu1) (KpR_of (fun j hj => by rw [hu1, rI_wI, if_neg (by omega)]) Kv) (by rw [hcw, hu1, rJ_wI]; exact Sv)
    · have hcw : chW fin mi z.1 z.2.2.2 = (z.1, 0, lcg z.2.2.2) := by
        unfold chW
        rw [if_neg q]
      refine dayR _ u (by rw [hcw]; rfl) Fu (by rw [hcw]; exact Wu) Ku (by rw [hcw]; exact Su)
theorem chI_V {fin ppl bk mi : Nat} {L : Nat → List Nat} {lc : List Nat} (h24 : fin ≤ 24) (hf : 1 ≤ fin) : ∀ m (z : cT), wV fin ppl z.1 → z.1 0 + m ≤ 999 → z.2.2.2 < 2147483648 → wV fin ppl (chI L lc fin ppl bk mi m z).1 ∧ (chI L lc fin ppl bk mi m z).2.2.2 < 2147483648
  | 0, z, h, h0, hl => ⟨h, hl⟩
  | m + 1, z, h, h0, hl => by
    have h0c := chW_0 (fin := fin) (mi := mi) (w := z.1) (n := z.2.2.2)
    refine chI_V h24 hf m (chS L lc fin ppl bk mi z) (dayF_V (chW_V h h24 hf) h24 hf (by omega)) ?_ chW_lt
    show (dayF L lc ppl bk (chW fin mi z.1 z.2.2.2).1 z.2.1).1 0 + m ≤ 999
    rw [dayF_0, h0c]
    omega
theorem op_chance {s : sT} (v : Int32) (I : Inv s) : two Inv (c11_chance v) (c12_chance v) s := by
  obtain ⟨fin, most, ppl, bk, mi, L, lc, cc, w, κ, I⟩ := I
  obtain ⟨⟨-, -, -, -, -, ⟨sd, hsd, sdC, sdR⟩⟩, io, ⟨n1, n2, n3, n4, n5, n6, n7⟩, ih, -⟩ := id I
  obtain ⟨-, -, -, hmi, -, eMi, eMr, OC, OR, -⟩ := id io
  have hd0 := n3.1 0
  have h24 := OC.1
  by_cases ok : 1 ≤ fin ∧ ∃ n, 1 ≤ n ∧ n ≤ 100 ∧ w 0 + n ≤ 999 ∧ v = nI n
  · obtain ⟨hf, n, g1, g2, g3, rfl⟩ := ok
    have ht := (IO_told io (by omega)).2.1
    refine e_c11_chance (dcbC_t OC.2.2.2.1 h24 hf n1.1 g1 g2 g3 (yes1 (w_keepC ih n1 n4 (fun s1 F1 H1 => ?_))))
    have OC1 : OCc s1 fin ppl bk L lc := OCc_fr F1 (fun a j p q r => xhC_f (by omega)) OC
    refine w_chC OC1 hf hmi (by rw [F1.1 _ _ rfl]; exact eMi) g2 n 0 (w, κ, 0, sd) s1 (Nat.zero_add _) fr_rf (StW_fr F1 (fun a j p q => xhC_f (by omega)) n1) (KpC_fr F1 (fun a j q => xhC_f (by omega)) n4) (by rw [F1.1 _ _ rfl]; exact sdC) hsd n3 g3 (fun s2 F2 W2 K2 S2 => ?_)
    have H2 : IHm s2 fin ppl w κ := IHm_fr F2 (fun a j q => by
      rw [Bool.eq_false_iff]
      intro z
      have := off_h_d q
      unfold XcC at z
      rw [this, Bool.false_or] at z
      simp only [Bool.and_eq_true, Nat.beq_eq] at z
      rw [z.1] at q
      cases q) H1
    have r2 : ∀ a j, ¬ (38 ≤ a ∧ a ≤ 144) → a ≠ 146 → a ≠ 31 → a ≠ 0 → rI s2 a j = rI s a j := fun a j p q r y => by
      rw [F2.1 _ _ (xcC_f (by omega) q r (Or.inl y)), F1.1 _ _ (xhC_f (by omega))]
    have N2 : NwW s2 w := fun k hk => by rw [r2 _ _ (by omega) (by omega) (by omega) (by omega)]; exact n2 k hk
    have KR2 : KpR s2 κ := KpR_of (fun j _ => r2 _ _ (by omega) (by omega) (by omega) (by omega)) n5
    refine e_c12_chance (ahR_t (lo := 1) (hi := 100) (by rw [r2 _ _ (by omega) (by omega) (by omega) (by omega)]; exact ht) (N2 0 (by omega)) g1 g2 (by decide) g3 (yes1 (w_keepsR H2 n3 N2 KR2 (fun s3 F3 H3 => ?_))))
    have r3 : ∀ a j, ¬ (38 ≤ a ∧ a ≤ 144) → a ≠ 146 → a ≠ 31 → a ≠ 0 → a ≠ 212 → ¬ (a = 162 ∧ (j = 73 ∨ j = 74)) → rI s3 a j = rI s a j := fun a j p q r x y z => by rw [F3.1 _ _ (xhR_f (by omega)), r2 a j p q r x]
    have OR3 : OCr s3 fin ppl bk L lc := OCr_fr F3 (fun a j q => xhR_f (by omega)) (OCr_fr F2 (fun a j q => xcC_f (by omega) (by omega) (by omega) (Or.inl (by omega))) (OCr_fr F1 (fun a j q => xhC_f (by omega)) OR))
    have hVs := chI_V (L := L) (lc := lc) (bk := bk) (mi := mi) h24 hf n (w, κ, 0, sd) n3 g3 hsd
    refine w_chR OR3 hf hmi (by rw [r3 _ _ (by omega) (by omega) (by omega) (by omega) (by omega) (by omega)]; exact eMr) (by rw [r3 _ _ (by omega) (by omega) (by omega) (by omega) (by omega) (by omega)]; exact n6) g2 n 0 (w, κ, 0, sd) s3 (Nat.zero_add _) fr_rf (NwW_fr F3 (fun _ _ => xhR_f (by omega)) N2) (KpR_of (fun j _ => F3.1 _ _ (xhR_f (by omega))) KR2) (by rw [F3.2.1 _ _ rfl, F2.2.1 _ _ rfl, F1.2.1 _ _ rfl]; exact sdR) hsd n3 g3 (fun s4 F4 N4 K4 S4 => ⟨rfl, ?_⟩)
    have F : Fr Xw s s4 := fr_tr (fr_tr (fr_mo F1 fun a j q => xw_c q) (fr_mo F2 fun a j q => ?_)) (fr_tr (fr_mo F3 fun a j q => xw_r q) (fr_mo F4 fun a j q => ?_))
    · refine IA_Inv (IA_w I F ⟨_, hVs.2, ?_, S4⟩ ⟨?_, N4, hVs.1, ?_, K4, ?_, ?_⟩ (IH_fr F4 (fun a j q => ?_) H3))
      · rw [F4.1 _ _ rfl, F3.1 _ _ rfl]; exact S2
      · exact StW_fr F4 (fun a j p q => xcR_f (by omega) (by omega) (by omega)) (StW_fr F3 (fun a j p q => xhR_f (by omega)) W2)
      · exact KpC_fr F4 (fun a j q => xcR_f (by omega) (by omega) (by omega)) (KpC_fr F3 (fun a j q => xhR_f (by omega)) K2)
      · rw [F4.1 _ _ rfl, r3 _ _ (by omega) (by omega) (by omega) (by omega) (by omega) (by omega)]; exact n6
      · exact k148_fr F4 (fun a j q => xcR_f (by omega) (by omega) (by omega)) (k148_fr F3 (fun a j q => xhR_f (by omega)) (k148_fr F2 (fun a j q => xcC_f (by omega) (by omega) (by omega) (Or.inl (by omega))) (k148_fr F1 (fun a j q => xhC_f (by omega)) n7)))
      · rw [Bool.eq_false_iff]
        intro z
        have := off_h_q q
        unfold XcR at z
        rw [this, Bool.false_or] at z
        simp only [Bool.and_eq_true, Nat.beq_eq] at z
        rw [z.1, z.2] at q
        cases q
    · unfold XcC at q
      rw [Bool.or_eq_true] at q
      rcases q with q | q
      · exact xw_d q
      · unfold Xw
        rw [q]
        simp
    · unfold XcR at q
      rw [Bool.or_eq_true] at q
      rcases q with q | q
      · exact xw_z (xz_q q)
      · unfold Xw
        rw [q]
        simp
  · have hno : fin = 0 ∨ ¬ ∃ n, 1 ≤ n ∧ n ≤ 100 ∧ w 0 + n ≤ 999 ∧ v = nI n := by
      by_cases z : fin = 0
      · exact Or.inl z
      · exact Or.inr (fun y => ok ⟨by omega, y⟩)
    refine e_c11_chance (dcbC_f OC.2.2.2.1 h24 n1.1 hd0 hno (no0 (refC (k := 3) (by decide) ?_)))
    refine e_c12_chance (ahR_f (lo := 1) (hi := 100) (w0 := w 0) (by rw [rI_wI, if_neg (by omega)]; exact n2 0 (by omega)) hd0 (by decide) (by decide) ?_ (no0 (refR (k := 3) (by decide) ⟨rfl, Inv_bump (IA_Inv I)⟩)))
    rcases hno with z | z
    · exact Or.inl (by rw [rI_wI, if_neg (by omega)]; exact (IO_not io z).2.2)
    · exact Or.inr z
