-- what lies ahead
def Xk (t a j : Nat) : Bool := (Nat.beq a t && Nat.beq j 0) || (Nat.beq a (t + 1) || (Nat.beq a (t + 2) || Nat.beq a (t + 3)))
theorem xk_t {t a j : Nat} (h : (a = t ∧ j = 0) ∨ a = t + 1 ∨ a = t + 2 ∨ a = t + 3) : Xk t a j = true := by
  unfold Xk
  simp only [Bool.or_eq_true, Bool.and_eq_true, Nat.beq_eq]
  omega
theorem xk_f {t a j : Nat} (h : ¬ ((a = t ∧ j = 0) ∨ a = t + 1 ∨ a = t + 2 ∨ a = t + 3)) : Xk t a j = false := by
  unfold Xk
  rw [Bool.eq_false_iff]
  intro q
  simp only [Bool.or_eq_true, Bool.and_eq_true, Nat.beq_eq] at q
  exact h q
theorem w_takeCourse {t0 t1 : Nat} {w : Nat → Nat} {Q : sT → Prop} {s : sT} (hd : t0 + 4 < t1 ∨ t1 + 4 < t0) (W : StW s t1 w) (h : ∀ s', Fr (Xk t0) s s' → StW s' t0 w → Q s') : c9_takeCourse t0 t1 Q s := by
  obtain ⟨W0, W1, W2, W3, W4⟩ := W
  refine e_c9_takeCourse (fun u1 h1 u2 h2 u3 h3 u4 h4 => h u4 ?_ ?_)
  · rw [h4, h3, h2, h1]
    exact fr_wC (fr_wC (fr_wC (fr_wI fr_rf (xk_t (by omega))) (fun j => xk_t (by omega))) (fun j => xk_t (by omega))) (fun j => xk_t (by omega))
  · refine ⟨?_, ?_, fun n a b => ?_, fun p hp => ?_, fun p hp => ?_⟩
    · rw [h4, rI_wC, if_neg (by omega), h3, rI_wC, if_neg (by omega), h2, rI_wC, if_neg (by omega), h1, rI_wI, if_pos ⟨rfl, rfl⟩]; exact W0
    · rw [h4, rI_wC, if_neg (by omega), h3, rI_wC, if_neg (by omega), h2, rI_wC, if_pos rfl, cpy_r, if_pos (by omega), rA_r, h1, rI_wI, if_neg (by omega)]; exact W1
    · rw [h4, rI_wC, if_neg (by omega), h3, rI_wC, if_neg (by omega), h2, rI_wC, if_pos rfl, cpy_r, if_pos (by omega), rA_r, h1, rI_wI, if_neg (by omega)]; exact W2 n a b
    · rw [h4, rI_wC, if_neg (by omega), h3, rI_wC, if_pos rfl, cpy_r, if_pos (by omega), rA_r, h2, rI_wC, if_neg (by omega), h1, rI_wI, if_neg (by omega)]; exact W3 p hp
    · rw [h4, rI_wC, if_pos rfl, cpy_r, if_pos (by omega), rA_r, h3, rI_wC, if_neg (by omega), h2, rI_wC, if_neg (by omega), h1, rI_wI, if_neg (by omega)]; exact W4 p hp
theorem w_takeAll {t0 t1 : Nat} {w : Nat → Nat} {κ : kT} {Q : sT → Prop} {s : sT} (hd : t0 + 4 < t1 ∨ t1 + 4 < t0) (W : StW s t1 w) (K : KpC s t1 κ) (h : ∀ s', Fr (Xs t0) s s' → StW s' t0 w → KpC s' t0 κ → Q s') : c9_takeAll t0 t1 Q s := by
  refine e_c9_takeAll (w_takeCourse hd W (fun u1 F1 W1 u2 h2 u3 h3 u4 h4 => ?_))
  have F1' : Fr (Xs t0) s u1 := fr_mo F1 (fun a j q => xs_t (by
    rcases Nat.lt_or_ge 0 0 with z | z
    · omega
    · unfold Xk at q
      simp only [Bool.or_eq_true, Bool.and_eq_true, Nat.beq_eq] at q
      omega))
  have ne : ∀ a j, a ≠ t0 → a ≠ t0 + 4 → rI u4 a j = rI u1 a j := fun a j q r => by
    rw [h4, rI_wI, if_neg (by omega), h3, rI_wI, if_neg (by omega), h2, rI_wC, if_neg r]
  have k1 : ∀ a j, (a = t1 ∨ a = t1 + 4) → rI u1 a j = rI s a j := fun a j q => F1.1 _ _ (xk_f (by omega))
  obtain ⟨K1, K2, f, K3, K4, K5⟩ := K
  obtain ⟨V0, V1, V2, V3, V4⟩ := W1
  refine h u4 (by rw [h4, h3, h2]; exact fr_wI (fr_wI (fr_wC F1' (fun j => xs_t (by omega))) (xs_t (by omega))) (xs_t (by omega))) ⟨?_, by rw [ne _ _ (by omega) (by omega)]; exact V1, fun n a b => by rw [ne _ _ (by omega) (by omega)]; exact V2 n a b, fun p hp => by rw [ne _ _ (by omega) (by omega)]; exact V3 p hp, fun p hp => by rw [ne _ _ (by omega) (by omega)]; exact V4 p hp⟩ ⟨?_, K2, f, K3, ?_, fun k hk j hj => ?_⟩
  · rw [h4, rI_wI, if_neg (by omega), h3, rI_wI, if_neg (by omega), h2, rI_wC, if_neg (by omega)]; exact V0
  · rw [h4, rI_wI, if_pos ⟨rfl, rfl⟩, h3, rI_wI, if_neg (by omega), h2, rI_wC, if_neg (by omega), k1 _ _ (by omega)]; exact K1
  · rw [h4, rI_wI, if_neg (by omega), h3, rI_wI, if_pos ⟨rfl, rfl⟩, h2, rI_wC, if_neg (by omega), k1 _ _ (by omega)]; exact K4
  · have hm : (f + k) % 40 < 40 := Nat.mod_lt _ (by decide)
    rw [h4, rI_wI, if_neg (by omega), h3, rI_wI, if_neg (by omega), h2, rI_wC, if_pos rfl, cpy_r, if_pos (by omega), rA_r, k1 _ _ (by omega)]
    exact K5 k hk j hj
def Xa (a j : Nat) : Bool := Nat.beq a 207 || (Nat.beq a 162 && Nat.beq j 64)
def asW (s : sT) (w : Nat → Nat) : Prop := ∀ k, k < 37 → rI s 207 k = nI (w k)
theorem w_aside_7 {w : Nat → Nat} {Q : sT → Prop} {s : sT} (N : NwW s w) (h : ∀ s', Fr Xa s s' → asW s' w → rI s' 162 64 = 1 → Q s') : ∀ m k s', k + m = 37 → Fr Xa s s' → rI s' 162 64 = 1 → (∀ j, j < k → rI s' 207 j = nI (w j)) → c12_putsAside_7 (nI k) Q s'
  | 0, k, s', e, F, t, g => by
    have e : k = 37 := e
    subst e
    exact e_c12_putsAside_7 (br_f (by decide) (h s' F (fun j hj => g j hj) t))
  | m + 1, k, s', e, F, t, g => by
    refine e_c12_putsAside_7 (br_t (nI_lt (b := 37) (by omega) (by decide)) ⟨vp_in_nI (by omega) (by decide), vp_in_nI (by omega) (by decide), fun u hu => ?_⟩)
    rw [nI_clamp (by omega), F.1 200 k rfl, N k (by omega)] at hu
    rw [nI_1]
    refine w_aside_7 N h m (k + 1) u (by omega) (by rw [hu]; exact fr_wI F rfl) (by rw [hu, rI_wI, if_neg (by omega)]; exact t) (fun j hj => ?_)
    rw [hu, rI_wI]
    by_cases z : j = k
    · rw [if_pos ⟨rfl, z⟩, z]
    · rw [if_neg (fun y => z y.2)]
      exact g j (by omega)
theorem w_putsAside {w : Nat → Nat} {Q : sT → Prop} {s : sT} (N : NwW s w) (h : ∀ s', Fr Xa s s' → asW s' w → rI s' 162 64 = 1 → Q s') : c12_putsAside Q s :=
  e_c12_putsAside (fun u hu => w_aside_7 N h 37 0 u (by decide) (by rw [hu]; exact fr_wI fr_rf rfl) (by rw [hu, rI_wI, if_pos ⟨rfl, rfl⟩]) (fun j hj => by omega))
def Xn (a j : Nat) : Bool := Nat.beq a 200 && Nat.ble j 36
theorem xn_t {a j : Nat} (h : a = 200 ∧ j ≤ 36) : Xn a j = true := by
  unfold Xn
  simp only [Bool.and_eq_true, Nat.beq_eq, Nat.ble_eq]
  exact h
theorem w_anew_2 {w : Nat → Nat} {Q : sT → Prop} {s : sT} (A : asW s w) (h : ∀ s', Fr Xn s s' → NwW s' w → Q s') : ∀ m k s', k + m = 37 → Fr Xn s s' → (∀ j, j < k → rI s' 200 j = nI (w j)) → c12_triesAnew_2 (nI k) Q s'
  | 0, k, s', e, F, g => by
    have e : k = 37 := e
    subst e
    exact e_c12_triesAnew_2 (br_f (by decide) (h s' F (fun j hj => g j hj)))
  | m + 1, k, s', e, F, g => by
    refine e_c12_triesAnew_2 (br_t (nI_lt (b := 37) (by omega) (by decide)) ⟨vp_in_nI (by omega) (by decide), vp_in_nI (by omega) (by decide), fun u hu => ?_⟩)
    rw [nI_clamp (by omega), F.1 207 k rfl, A k (by omega)] at hu
    rw [nI_1]
    refine w_anew_2 A h m (k + 1) u (by omega) (by rw [hu]; exact fr_wI F (xn_t (by omega))) (fun j hj => ?_)
    rw [hu, rI_wI]
    by_cases z : j = k
    · rw [if_pos ⟨rfl, z⟩, z]
    · rw [if_neg (fun y => z y.2)]
      exact g j (by omega)
theorem w_triesAnew {w : Nat → Nat} {Q : sT → Prop} {s : sT} (A : asW s w) (h : ∀ s', Fr Xn s s' → NwW s' w → Q s') : c12_triesAnew Q s :=
  e_c12_triesAnew (w_anew_2 A h 37 0 s (by decide) fr_rf (fun j hj => by omega))
theorem w_takesBack {w : Nat → Nat} {Q : sT → Prop} {s : sT} (A : asW s w) (h : ∀ s', Fr (fun a j => Xn a j || (Nat.beq a 162 && Nat.beq j 64)) s s' → NwW s' w → rI s' 162 64 = 0 → Q s') : c12_takesBack Q s :=
  e_c12_takesBack (w_triesAnew A (fun u F N v hv => h v (by rw [hv]; exact fr_wI (fr_mo F (fun a j q => by simp only [q, Bool.true_or])) rfl) (fun k hk => by rw [hv, rI_wI, if_neg (by omega)]; exact N k hk) (by rw [hv, rI_wI, if_pos ⟨rfl, rfl⟩])))
-- days, one behind the other
def zSim (z z' : zT) : Prop := z.1 = z'.1 ∧ z.2.2 = z'.2.2
theorem stP_sim {L : Nat → List Nat} {lc : List Nat} {z z' : zT} {p : Nat} (h : zSim z z') : zSim (stP L lc z p) (stP L lc z' p) := by
  obtain ⟨h1, h2⟩ := h
  unfold stP
  rw [h1]
  split
  · exact ⟨rfl, h2⟩
  · exact ⟨rfl, by rw [h2]⟩
theorem dayL_sim {L : Nat → List Nat} {lc : List Nat} : ∀ {m p : Nat} {z z' : zT}, zSim z z' → zSim (dayL L lc m p z) (dayL L lc m p z')
  | 0, _, _, _, h => h
  | m + 1, p, _, _, h => dayL_sim (m := m) (stP_sim h)
theorem dayF_sim {L : Nat → List Nat} {lc : List Nat} {ppl bk : Nat} {w : Nat → Nat} {κ κ' : kT} : zSim (dayF L lc ppl bk w κ) (dayF L lc ppl bk w κ') := by
  obtain ⟨h1, h2⟩ := dayL_sim (L := L) (lc := lc) (m := ppl) (p := 0) (z := day0 bk w κ) (z' := day0 bk w κ') ⟨rfl, rfl⟩
  unfold dayF
  rw [h1]
  exact ⟨rfl, h2⟩
/-- n days: numbers, what is kept, how many were served -/
def dIt (L : Nat → List Nat) (lc : List Nat) (ppl bk : Nat) : Nat → zT → zT
  | 0, z => z
  | n + 1, z => dIt L lc ppl bk n ((dayF L lc ppl bk z.1 z.2.1).1, (dayF L lc ppl bk z.1 z.2.1).2.1, z.2.2 + pcN (dayF L lc ppl bk z.1 z.2.1).2.2 6)
theorem dIt_sim {L : Nat → List Nat} {lc : List Nat} {ppl bk : Nat} : ∀ {n : Nat} {z z' : zT}, z.1 = z'.1 → (dIt L lc ppl bk n z).1 = (dIt L lc ppl bk n z').1
  | 0, _, _, h => h
  | n + 1, z, z', h => by
    unfold dIt
    refine dIt_sim (n := n) ?_
    show (dayF L lc ppl bk z.1 z.2.1).1 = (dayF L lc ppl bk z'.1 z'.2.1).1
    rw [h]
    exact dayF_sim.1
theorem pcN_le (x : Nat) : ∀ n, pcN x n ≤ n
  | 0 => Nat.le_refl _
  | n + 1 => by
    have := pcN_le x n
    rw [pcN]
    split <;> omega
theorem w_ahead_40 {fin ppl bk n : Nat} {L : Nat → List Nat} {lc : List Nat} {Q : Int32 → sT → Prop} {s : sT} (C : OCc s fin ppl bk L lc) (hn : n ≤ 100) : ∀ m i (z : zT) s', i + m = n → Fr (Xd 148) s s' → StW s' 148 z.1 → (∃ κ, KpC s' 148 κ) → wM z.1 → z.1 0 + m ≤ 999 → (∀ s'', Fr (Xd 148) s s'' → StW s'' 148 (dIt L lc ppl bk m z).1 → (∃ κ, KpC s'' 148 κ) → Q 1 s'') → c5_goAhead_40 (nI n) (nI i) Q s'
  | 0, i, z, s', e, F, W, K, hM, h0, h => by
    have e : i = n := e
    subst e
    exact e_c5_goAhead_40 (br_f (nI_nlt (Nat.le_refl _) (by omega)) (h s' F W K))
  | m + 1, i, z, s', e, F, W, K, hM, h0, h => by
    obtain ⟨κ, K⟩ := K
    refine e_c5_goAhead_40 (br_t (nI_lt (by omega) (by omega)) ?_)
    refine w_passDay (Or.inr rfl) (OCc_d (Or.inr rfl) F C) W K hM (by omega) (fun u g1 g2 g3 => ?_)
    rw [nI_1]
    refine w_ahead_40 C hn m (i + 1) ((dayF L lc ppl bk z.1 z.2.1).1, (dayF L lc ppl bk z.1 z.2.1).2.1, z.2.2 + pcN (dayF L lc ppl bk z.1 z.2.1).2.2 6) u (by omega) (fr_tr F g1) ?_ ⟨_, g3⟩ (dayF_M hM (by omega)) (by show (dayF L lc ppl bk z.1 z.2.1).1 0 + m ≤ 999; rw [dayF_0]; omega) h
    show StW u 148 (dayF L lc ppl bk z.1 z.2.1).1
    rw [dayF_sim (κ := z.2.1) (κ' := κ) |>.1]
    exact g2
/-- the class goes ahead -/
theorem w_goAhead {fin ppl bk n : Nat} {L : Nat → List Nat} {lc : List Nat} {w : Nat → Nat} {κ : kT} {Q : Int32 → sT → Prop} {s : sT} (C : OCc s fin ppl bk L lc) (W : StW s 38 w) (K : ∃ κ, KpC s 148 κ) (hM : wM w) (hn : n ≤ 40) (h0 : w 0 + n ≤ 999) (h : ∀ s', Fr (Xd 148) s s' → StW s' 148 (dIt L lc ppl bk n (w, κ, 0)).1 → (∃ κ, KpC s' 148 κ) → Q 1 s') : c5_goAhead (nI n) Q s := by
  obtain ⟨κ', K⟩ := K
  refine e_c5_goAhead (br_f (nI_pos (by omega)) (br_f (nI_nlt (a := 40) hn (by decide)) (br_f ?_ ?_)))
  · rw [W.1, nI_add]
    exact nI_nlt (a := 999) h0 (by decide)
  · refine w_takeCourse (by omega) W (fun u F W1 => ?_)
    have F' : Fr (Xd 148) s u := fr_mo F (fun a j q => xd_s (xs_t (by
      unfold Xk at q
      simp only [Bool.or_eq_true, Bool.and_eq_true, Nat.beq_eq] at q
      omega)))
    refine w_ahead_40 C (by omega) n 0 (w, κ, 0) u (Nat.zero_add _) F' W1 ⟨κ', ?_⟩ hM h0 h
    obtain ⟨a, b, f, c, d, e⟩ := K
    exact ⟨by rw [F.1 _ _ (xk_f (by omega))]; exact a, b, f, c, by rw [F.1 _ _ (xk_f (by omega))]; exact d, fun k hk j hj => by rw [F.1 _ _ (xk_f (by omega))]; exact e k hk j hj⟩
theorem goAhead_f {v : Int32} {w0 : Nat} {Q : Int32 → sT → Prop} {s : sT} (hd : rI s 38 0 = nI w0) (h0 : w0 ≤ 999) (hv : ¬ ∃ n, n < 41 ∧ w0 + n ≤ 999 ∧ v = nI n) (h : Q 0 s) : c5_goAhead v Q s := by
  refine e_c5_goAhead (br_c (fun _ => h) (fun q => br_c (fun _ => h) (fun q2 => br_c (fun _ => h) (fun q3 => ?_))))
  obtain ⟨n, hn, rfl⟩ := nI_of q
  rw [show (40 : Int32) = nI 40 from rfl, nI_ltI (by decide) hn] at q2
  rw [hd, nI_add, show (999 : Int32) = nI 999 from rfl, nI_ltI (by decide) (by omega)] at q3
  exact absurd ⟨n, by omega, by omega, rfl⟩ hv
/-- n days go, in the reference -/
theorem w_go_7 {fin ppl bk n : Nat} {L : Nat → List Nat} {lc : List Nat} {th : Bool} {Q : sT → Prop} {s0 : sT} (C : OCr s0 fin ppl bk L lc) (ht : rI s0 162 64 = if th = true then 1 else 0) (hn : n ≤ 100) : ∀ m i (z : zT) s, i + m = n → Fr Xq s0 s → NwW s z.1 → th0 th s0 s z.2.1 → rI s 162 62 = nI z.2.2 → wM z.1 → z.1 0 + m ≤ 1100 → (∀ s', Fr Xq s0 s' → NwW s' (dIt L lc ppl bk m z).1 → th0 th s0 s' (dIt L lc ppl bk m z).2.1 → rI s' 162 62 = nI (dIt L lc ppl bk m z).2.2 → Q s') → c12_daysGo_7 (nI n) (nI i) Q s
  | 0, i, z, s, e, F, N, T, e62, hM, h0, h => by
    have e : i = n := e
    subst e
    exact e_c12_daysGo_7 (br_f (nI_nlt (Nat.le_refl _) (by omega)) (h s F N T e62))
  | m + 1, i, z, s, e, F, N, T, e62, hM, h0, h => by
    refine e_c12_daysGo_7 (br_t (nI_lt (by omega) (by omega)) ?_)
    refine w_dayGoes C ht F N T hM (fun u g1 g2 g3 g4 g5 => ?_)
    rw [nI_1]
    refine w_go_7 C ht hn m (i + 1) ((dayF L lc ppl bk z.1 z.2.1).1, (dayF L lc ppl bk z.1 z.2.1).2.1, z.2.2 + pcN (dayF L lc ppl bk z.1 z.2.1).2.2 6) u (by omega) g1 g2 g3 (by rw [g5, e62, nI_add]) (dayF_M hM (by omega)) (by show (dayF L lc ppl bk z.1 z.2.1).1 0 + m ≤ 1100; rw [dayF_0]; omega) h
theorem w_daysGo {fin ppl bk n : Nat} {L : Nat → List Nat} {lc : List Nat} {w : Nat → Nat} {κ : kT} {th : Bool} {Q : sT → Prop} {s : sT} (C : OCr s fin ppl bk L lc) (ht : rI s 162 64 = if th = true then 1 else 0) (hn : n ≤ 100) (N : NwW s w) (K : th = false → KpR s κ) (hM : wM w) (h0 : w 0 ≤ 1000) (h : ∀ s', Fr Xq s s' → NwW s' (dIt L lc ppl bk n (w, κ, 0)).1 → th0 th s s' (dIt L lc ppl bk n (w, κ, 0)).2.1 → rI s' 162 62 = nI (dIt L lc ppl bk n (w, κ, 0)).2.2 → Q s') : c12_daysGo (nI n) Q s := by
  refine e_c12_daysGo (fun u hu => ?_)
  have F : Fr Xq s u := by rw [hu]; exact fr_wI fr_rf rfl
  refine w_go_7 C ht hn n 0 (w, κ, 0) u (Nat.zero_add _) F (fun k hk => ?_) ⟨fun _ j hj => ?_, fun q => ?_⟩ (by rw [hu, rI_wI, if_pos ⟨rfl, rfl⟩]; rfl) hM (by show w 0 + n ≤ 1100; omega) h
  · rw [hu, rI_wI, if_neg (by omega)]; exact N k hk
  · rw [hu, rI_wI, if_neg (by omega)]
  · obtain ⟨a, b, c⟩ := K q
    exact ⟨by rw [hu, rI_wI, if_neg (by omega)]; exact a, b, fun k hk j hj => by rw [hu, rI_wI, if_neg (by omega)]; exact c k hk j hj⟩
