/-- what a cost may ask: size, stock, day, place -/
def ffC (w : Nat → Nat) (n pl : Nat) (k : Nat) : Int := if k = 0 then n else if k = 1 then w n else if k = 2 then w 0 else if k = 3 then pl else 0
def evC (cc : List Nat) (w : Nat → Nat) (n pl : Nat) : Int := match ev (ffC w n pl) fo0 cc [] with
  | [x] => x
  | _ => 0
def prS (cc : List Nat) (w : Nat → Nat) (x : Nat) : Nat → Nat → Nat → Int → Int
  | 0, _, _, a => a
  | m + 1, n, pl, a => if x.testBit (n - 1) = true then prS cc w x m (n + 1) (pl + 1) (a + evC cc w n pl) else prS cc w x m (n + 1) pl a
theorem alC_k {k : Nat} (h : alC (40 + k) = true) : k = 0 ∨ k = 1 ∨ k = 2 ∨ k = 3 := by
  unfold alC at h
  simp only [Bool.or_eq_true, Nat.beq_eq] at h
  omega
theorem ffC_rg {w : Nat → Nat} {n pl k : Nat} (hw : wB w) (hn : n ≤ 24) (hp : pl ≤ 24) : rg (ffC w n pl k) := by
  unfold ffC rg
  have h1 := hw n
  have h2 := hw 0
  split
  · omega
  split
  · omega
  split
  · omega
  split <;> omega
def XfeC (a _ : Nat) : Bool := Nat.beq a 160 || Nat.beq a 28
theorem w_prC {fin x : Nat} {cc : List Nat} {w : Nat → Nat} {Q : Int64 → sT → Prop} {s : sT} (hf : fin ≤ 24) (hx : x < 2 ^ 24) (hF : rI s 21 0 = nI fin) (W : StW s 38 w) (hw : wB w) (C : cosC s cc) : ∀ m n pl (a : Int) (v : Int64) s', n + m = fin + 1 → 1 ≤ n → pl < n → v.toInt = a → -1000000 * (n : Int) ≤ a → a ≤ 1000000 * (n : Int) → Fr XfeC s s' → rI s' 160 2 = nI (w 0) → (∀ s'' r, Fr XfeC s s'' → r.toInt = prS cc w x m n pl a → Q r s'') → c11_priceOf_20 (nI x) (nI pl) v (nI n) Q s'
  | 0, n, pl, a, v, s', e, h1, hp, hv, b1, b2, F, e2, h =>
    e_c11_priceOf_20 (br_t (by rw [F.1 21 0 rfl, hF]; exact nI_lt (by omega) (by omega)) (h s' v F hv))
  | m + 1, n, pl, a, v, s', e, h1, hp, hv, b1, b2, F, e2, h => by
    unfold prS at h
    refine e_c11_priceOf_20 (br_f (by rw [F.1 21 0 rfl, hF]; exact nI_nlt (by omega) (by omega)) ?_)
    rw [show (1 : Int32) = nI 1 from rfl, pk_sub h1, show nI 1 = (1 : Int32) from rfl, bit_1 (by omega) (by omega)]
    refine br_c (fun q u1 g1 => ⟨vp_in_nI (by omega) (by decide), fun u2 g2 u3 g3 => ?_⟩) (fun q => ?_)
    · rw [if_pos q] at h
      have hwn := hw n
      have hw0 := hw 0
      have e39 : rI u1 39 n = nI (w n) := by rw [g1, rI_wI, if_neg (by omega), F.1 39 n rfl]; exact W.2.2.1 n h1 (by omega)
      rw [nI_clamp (by omega), e39] at g2
      have F3 : Fr XfeC s u3 := by rw [g3, g2, g1]; exact fr_wI (fr_wI (fr_wI F rfl) rfl) rfl
      obtain ⟨d1, d2, d3, d4⟩ := C
      refine w_reckon (al := alC) (ff := ffC w n pl) (fo := fo0) (b := false) (by decide) ⟨rfl, fun k hk ha => ⟨?_, ffC_rg hw (by omega) (by omega)⟩, fun q => absurd q (by decide), fun q => absurd q (by decide), fun c n _ => rfl⟩ (by rw [F3.1 _ _ rfl]; exact d2) d1 (fun k hk => by rw [F3.1 27 k rfl]; exact d3 k hk) d4 (fun y r g hy ht hr z hz => ?_)
      · rcases alC_k ha with rfl | rfl | rfl | rfl
        · rw [g3, rI_wI, if_neg (by omega), g2, rI_wI, if_neg (by omega), g1, rI_wI, if_pos ⟨rfl, rfl⟩, nI_toInt (by omega)]; rfl
        · rw [g3, rI_wI, if_neg (by omega), g2, rI_wI, if_pos ⟨rfl, rfl⟩, nI_toInt (by omega)]; rfl
        · rw [g3, rI_wI, if_neg (by omega), g2, rI_wI, if_neg (by omega), g1, rI_wI, if_neg (by omega), e2, nI_toInt (by omega)]; rfl
        · rw [g3, rI_wI, if_pos ⟨rfl, rfl⟩, nI_toInt (by omega)]; rfl
      · have hrg : rg y := ht.1
        unfold rg at hrg
        have ey : evC cc w n pl = y := by
          unfold evC
          rw [hy]
        rw [ey] at h
        have ez : z.toInt = a + y := by
          rw [hz, fb_addL (by rw [hv, wide, hr]; omega) (by rw [hv, wide, hr]; omega), hv, wide, hr]
        rw [nI_1, nI_1]
        refine w_prC hf hx hF W hw ⟨d1, d2, d3, d4⟩ m (n + 1) (pl + 1) (a + y) z _ (by omega) (by omega) (by omega) ez (by omega) (by omega) (fr_wC F3 (fun _ => rfl)) ?_ h
        rw [rI_wC, if_neg (by omega), g3, rI_wI, if_neg (by omega), g2, rI_wI, if_neg (by omega), g1, rI_wI, if_neg (by omega)]
        exact e2
    · rw [if_neg q] at h
      rw [nI_1]
      exact w_prC hf hx hF W hw C m (n + 1) pl a v s' (by omega) (by omega) (by omega) hv (by omega) (by omega) F e2 h
theorem w_priceC {fin x : Nat} {cc : List Nat} {w : Nat → Nat} {Q : Int64 → sT → Prop} {s : sT} (hf : fin ≤ 24) (hx : x < 2 ^ 24) (hF : rI s 21 0 = nI fin) (W : StW s 38 w) (hw : wB w) (C : cosC s cc) (h : ∀ s'' r, Fr XfeC s s'' → r.toInt = prS cc w x fin 1 0 0 → Q r s'') : c11_priceOf (nI x) Q s := by
  refine e_c11_priceOf (fun u hu => ?_)
  have F : Fr XfeC s u := by rw [hu]; exact fr_wI fr_rf rfl
  obtain ⟨d1, d2, d3, d4⟩ := C
  refine w_prC (pl := 0) (a := 0) (v := 0) hf hx (by rw [F.1 _ _ rfl]; exact hF) (StW_fr F (fun a j p q => by rw [Bool.eq_false_iff]; intro y; unfold XfeC at y; simp only [Bool.or_eq_true, Nat.beq_eq] at y; omega) W) hw ⟨d1, by rw [F.1 _ _ rfl]; exact d2, fun k hk => by rw [F.1 27 k rfl]; exact d3 k hk, d4⟩ fin 1 u (by omega) (by decide) (by decide) rfl (by omega) (by omega) fr_rf (by rw [hu, rI_wI, if_pos ⟨rfl, rfl⟩]; exact W.1) (fun s'' r F2 hr => h s'' r (fr_tr F F2) hr)
theorem facC {s : sT} {pl n : Nat} {w : Nat → Nat} (hn1 : 1 ≤ n) (hn : n ≤ 24) (hp : pl ≤ 24) (hw : wB w) (N : NwW s w) (e59 : rI s 162 59 = nI n) (e60 : rI s 162 60 = nI pl) : facR s 0 alC (ffC w n pl) fo0 := by
  refine ⟨fun k hk ha => ⟨ffC_rg hw hn hp, ?_⟩, fun c hc ha => by rcases hc with rfl | rfl <;> exact absurd ha (by decide)⟩
  have b1 := hw n
  have b2 := hw 0
  have rr : ∀ (f : Nat → Int64) m a j, (a ≠ 162 ∨ j ≠ 107) → rI (rP s f m) a j = rI s a j := fun f m a j q => by rw [rI_rP, if_neg (by omega)]
  rcases alC_k ha with rfl | rfl | rfl | rfl
  · refine ⟨Int32.toInt64 (nI n), by rw [wide, nI_toInt (by omega)]; rfl, fun f m Q h => e_c12_qPartOf (br_t rfl ?_)⟩
    rw [rr _ _ _ _ (by omega), e59]
    exact h
  · refine ⟨Int32.toInt64 (nI (w n)), by rw [wide, nI_toInt (by omega)]; rfl, fun f m Q h => e_c12_qPartOf (br_f (by decide) (br_t rfl ⟨?_, ?_⟩))⟩
    · rw [rr _ _ _ _ (by omega), e59]
      exact vp_in_nI (by omega) (by decide)
    · rw [rr _ _ 162 59 (by omega), e59, nI_clamp (by omega), rr _ _ _ _ (by omega), N n (by omega)]
      exact h
  · refine ⟨Int32.toInt64 (nI (w 0)), by rw [wide, nI_toInt (by omega)]; rfl, fun f m Q h => e_c12_qPartOf (br_f (by decide) (br_f (by decide) (br_t rfl ?_)))⟩
    rw [rr _ _ _ _ (by omega), N 0 (by omega)]
    exact h
  · refine ⟨Int32.toInt64 (nI pl), by rw [wide, nI_toInt (by omega)]; rfl, fun f m Q h => e_c12_qPartOf (br_f (by decide) (br_f (by decide) (br_f (by decide) (br_t rfl ?_))))⟩
    rw [rr _ _ _ _ (by omega), e60]
    exact h
def XfeR (a j : Nat) : Bool := Nat.beq a 239 || (Nat.beq a 162 && (Nat.beq j 50 || (Nat.beq j 59 || (Nat.beq j 60 || Nat.beq j 107))))
theorem alC_6 (c : Nat) (h : 50 ≤ c) (_ : c < 1000) : alC c = false := by
  unfold alC
  rw [Bool.eq_false_iff]
  intro z
  simp only [Bool.or_eq_true, Nat.beq_eq] at z
  omega
theorem w_coR {fin x : Nat} {cc : List Nat} {w : Nat → Nat} {Q : Int64 → sT → Prop} {s : sT} (hf : fin ≤ 24) (hx : x < 2 ^ 24) (hF : rI s 193 5 = nI fin) (N : NwW s w) (hw : wB w) (C : cosR s cc) (hty : tyL alC cc [] = some [false]) : ∀ m n pl (a : Int) (v : Int64) s', n + m = fin + 1 → 1 ≤ n → pl < n → v.toInt = a → -1000000 * (n : Int) ≤ a → a ≤ 1000000 * (n : Int) → Fr XfeR s s' → rI s' 162 60 = nI pl → (∀ s'' r, Fr XfeR s s'' → r.toInt = prS cc w x m n pl a → Q r s'') → c12_costOf_10 (nI x) v (nI n) Q s'
  | 0, n, pl, a, v, s', e, h1, hp, hv, b1, b2, F, e2, h =>
    e_c12_costOf_10 (e_c12_finest (br_t (by rw [F.1 193 5 rfl, hF]; exact nI_lt (by omega) (by omega)) (h s' v F hv)))
  | m + 1, n, pl, a, v, s', e, h1, hp, hv, b1, b2, F, e2, h => by
    unfold prS at h
    refine e_c12_costOf_10 (e_c12_finest (br_f (by rw [F.1 193 5 rfl, hF]; exact nI_nlt (by omega) (by omega)) (w_isOf hx h1 (by omega) ?_)))
    by_cases q : x.testBit (n - 1) = true
    · rw [if_pos q] at h ⊢
      refine yes1 (fun u5 g5 => e_c12_isCoded ?_)
      have F5 : Fr XfeR s u5 := by rw [g5]; exact fr_wI F rfl
      have e60 : rI u5 162 60 = nI pl := by rw [g5, rI_wI, if_neg (by omega)]; exact e2
      have e59 : rI u5 162 59 = nI n := by rw [g5, rI_wI, if_pos ⟨rfl, rfl⟩]
      rw [show (2 : Int32) + (0 : Int32) = nI 2 from rfl, nI_clamp (by decide), F5.1 197 2 rfl]
      refine ⟨vp_in_nI (by decide) (by decide), ?_⟩
      rcases C with ⟨c1, rfl⟩ | ⟨frm, c1, c2, c3, c4⟩
      · refine br_t c1 (br_t rfl (fun z hz u11 g11 => ?_))
        have ey : evC [40] w n pl = n := rfl
        rw [ey] at h
        have ez : z.toInt = a + n := by
          rw [hz, fb_addL (by rw [hv, wide, nI_toInt (by omega)]; omega) (by rw [hv, wide, nI_toInt (by omega)]; omega), hv, wide, nI_toInt (by omega)]
        rw [e60, nI_1] at g11
        rw [nI_1]
        exact w_coR hf hx hF N hw (Or.inl ⟨c1, rfl⟩) hty m (n + 1) (pl + 1) (a + n) z u11 (by omega) (by omega) (by omega) ez (by omega) (by omega) (by rw [g11]; exact fr_wI F5 rfl) (by rw [g11, rI_wI, if_pos ⟨rfl, rfl⟩]) h
      · have hne : ¬ rI s 197 2 = (-1 : Int32) := fun q => by
          rw [c1] at q
          have := congrArg Int32.toInt q
          rw [nI_toInt (by omega)] at this
          have e : ((-1 : Int32)).toInt = -1 := rfl
          omega
        refine br_f hne (br_f (by decide) ?_)
        have F6 : Fr XfeR s (wI u5 162 50 (nI 0)) := fr_wI F5 rfl
        have fK : facR (wI u5 162 50 (nI 0)) 0 alC (ffC w n pl) fo0 := by
          refine facC h1 (by omega) (by omega) hw (fun j hj => by rw [F6.1 _ _ rfl]; exact N j hj) ?_ ?_
          · rw [rI_wI, if_neg (by omega)]; exact e59
          · rw [rI_wI, if_neg (by omega)]; exact e60
        refine w_codesTell (w := 0) (frm := frm) (cs := cc) (b := false) (by decide) fK alC_6 (by rw [F5.1 _ _ rfl]; exact c1) (by rw [F5.1 _ _ rfl]; exact c2) c3 (fun j hj => by rw [F5.1 199 _ rfl]; exact c4 j hj) hty (fun y r f k hy ht2 hr z hz u13 g13 => ?_)
        have F7 : Fr XfeR s (rP (wI u5 162 50 (nI 0)) f k) := by
          refine ⟨fun a j q => ?_, fun a j q => ?_, F6.2.2⟩
          · rw [rI_rP, if_neg (fun z => by obtain ⟨rfl, rfl⟩ := z; cases q)]; exact F6.1 a j q
          · unfold rP
            rw [rJ_wI, rJ_wD, if_neg (fun z => by subst z; cases q)]
            exact F6.2.1 a j q
        have hrg : rg y := ht2.1
        unfold rg at hrg
        have ey : evC cc w n pl = y := by
          unfold evC
          rw [hy]
        rw [ey] at h
        have ez : z.toInt = a + y := by
          rw [hz, fb_addL (by rw [hv, hr]; omega) (by rw [hv, hr]; omega), hv, hr]
        rw [rI_rP, if_neg (by omega), rI_wI, if_neg (by omega), e60, nI_1] at g13
        rw [nI_1]
        exact w_coR hf hx hF N hw (Or.inr ⟨frm, c1, c2, c3, c4⟩) hty m (n + 1) (pl + 1) (a + y) z u13 (by omega) (by omega) (by omega) ez (by omega) (by omega) (by rw [g13]; exact fr_wI F7 rfl) (by rw [g13, rI_wI, if_pos ⟨rfl, rfl⟩]) h
    · rw [if_neg q] at h ⊢
      refine no0 ?_
      rw [nI_1]
      exact w_coR hf hx hF N hw C hty m (n + 1) pl a v s' (by omega) (by omega) (by omega) hv (by omega) (by omega) F e2 h
