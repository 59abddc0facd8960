theorem w_wfor_2 {p fin : Nat} {L lc : List Nat} {w : Nat → Nat} {Q : Int32 → sT → Prop} {s : sT} (hf : fin ≤ 24) (hF : rI s 193 5 = nI fin) (N : NwW s w) (hw : wB w) (C : likR s lc) (W : wayR s p L) (hL : ∀ x ∈ L, x < 2 ^ fin) (h1 : ∀ k (hk : k < L.length) s', Fr Xr s s' → L[k] = chs L (gdB lc w p) → L[k] ≠ 0 → Q (nI k) s') (h0 : ∀ s', Fr Xr s s' → chs L (gdB lc w p) = 0 → Q (-1) s') : ∀ (r : List Nat) (k : Nat) s', L.drop k = r → k ≤ L.length → Fr Xr s s' → chs L (gdB lc w p) = chs r (gdB lc w p) → c12_writingFor_2 (nI p) (nI k) Q s'
  | [], k, s', e, hk, hr, hc => by
    have := drop_nil e hk
    have w2 := W.2.1
    have wp := W.1
    refine e_c12_writingFor_2 ⟨vp_in_nI wp (by decide), br_f ?_ (h0 s' hr hc)⟩
    rw [nI_clamp (by omega), hr.1 205 p rfl, W.2.2.1]
    exact nI_nlt (by omega) (by omega)
  | x :: r, k, s', e, hk, hr, hc => by
    obtain ⟨g1, g2, g3⟩ := drop_ix e
    have w2 := W.2.1
    have wp := W.1
    have hxm : x ∈ L := g2 ▸ List.getElem_mem g1
    have hx := hL x hxm
    have e4 : (2000 : Int32) * nI p + nI k = nI (2000 * p + k) := by rw [show (2000 : Int32) = nI 2000 from rfl, pk_mul, nI_add]
    have r4 : ∀ s1, Fr Xr s s1 → rI s1 204 (2000 * p + k) = nI x := fun s1 q => by rw [q.1 204 _ rfl, W.2.2.2.1 k g1, g2]
    have hw31 : ∀ n, w n < 2 ^ 31 := fun n => by have := hw n; omega
    refine e_c12_writingFor_2 ⟨vp_in_nI wp (by decide), br_t ?_ ?_⟩
    · rw [nI_clamp (by omega), hr.1 205 p rfl, W.2.2.1]
      exact nI_lt g1 (by omega)
    rw [e4, nI_clamp (by omega), r4 s' hr, nI_1]
    refine ⟨vp_in_nI (by omega) (by decide), w_inst hx hf (by rw [hr.1 193 5 rfl]; exact hF) (NwW_fr hr (fun _ _ => rfl) N) hw31 ?_⟩
    have hcx : chs (x :: r) (gdB lc w p) = if sB x (gdB lc w p) = true then x else chs r (gdB lc w p) := rfl
    rw [hcx] at hc
    have hgd : sB x (gdB lc w p) = true ↔ sB x (fun n => decide (0 < w n)) = true ∧ sB x (lkB lc w p) = true := by
      rw [sB_iff, sB_iff, sB_iff]
      unfold gdB
      constructor
      · intro q
        refine ⟨fun i hi hb => ?_, fun i hi hb => ?_⟩
        · have := q i hi hb; rw [Bool.and_eq_true] at this; exact this.1
        · have := q i hi hb; rw [Bool.and_eq_true] at this; exact this.2
      · intro q i hi hb
        rw [Bool.and_eq_true]
        exact ⟨q.1 i hi hb, q.2 i hi hb⟩
    by_cases hs : sB x (fun n => decide (0 < w n)) = true
    · rw [if_pos hs]
      refine br_f (by decide) ⟨vp_in_nI (by omega) (by decide), ?_⟩
      rw [r4 s' hr]
      refine w_liked hx hf (by rw [hr.1 193 5 rfl]; exact hF) (NwW_fr hr (fun _ _ => rfl) N) hw wp (likR_fr hr (fun a j h1 h2 => xr_f (by omega) (by omega)) C) (fun s1 q1 => ?_)
      have hr1 := fr_tr hr q1
      by_cases hl : sB x (lkB lc w p) = true
      · rw [if_pos hl]
        rw [if_pos (hgd.2 ⟨hs, hl⟩)] at hc
        refine br_f (by decide) (h1 k g1 s1 hr1 (by rw [g2, hc]) (by rw [g2]; have := (W.2.2.2.2 x hxm).1; omega))
      · rw [if_neg hl]
        rw [if_neg (fun z => hl (hgd.1 z).2)] at hc
        exact br_t rfl (w_wfor_2 hf hF N hw C W hL h1 h0 r (k + 1) s1 g3 g1 hr1 hc)
    · rw [if_neg hs]
      rw [if_neg (fun z => hs (hgd.1 z).1)] at hc
      exact br_t rfl (w_wfor_2 hf hF N hw C W hL h1 h0 r (k + 1) s' g3 g1 hr hc)
theorem w_wfor {p fin : Nat} {L lc : List Nat} {w : Nat → Nat} {Q : Int32 → sT → Prop} {s : sT} (hf : fin ≤ 24) (hF : rI s 193 5 = nI fin) (N : NwW s w) (hw : wB w) (C : likR s lc) (W : wayR s p L) (hL : ∀ x ∈ L, x < 2 ^ fin) (h1 : ∀ k (hk : k < L.length) s', Fr Xr s s' → L[k] = chs L (gdB lc w p) → L[k] ≠ 0 → Q (nI k) s') (h0 : ∀ s', Fr Xr s s' → chs L (gdB lc w p) = 0 → Q (-1) s') : c12_writingFor (nI p) Q s :=
  e_c12_writingFor (w_wfor_2 hf hF N hw C W hL h1 h0 L 0 s rfl (Nat.zero_le _) fr_rf rfl)
theorem w_takenBy {p fin : Nat} {L lc : List Nat} {w : Nat → Nat} {Q : Int32 → sT → Prop} {s : sT} (hf : fin ≤ 24) (hF : rI s 193 5 = nI fin) (N : NwW s w) (hw : wB w) (C : likR s lc) (W : wayR s p L) (hL : ∀ x ∈ L, x < 2 ^ fin) (h : ∀ s', Fr Xr s s' → Q (if chs L (gdB lc w p) = 0 then -1 else nI (chs L (gdB lc w p))) s') : c12_takenBy (nI p) Q s := by
  have wp := W.1
  have w2 := W.2.1
  refine e_c12_takenBy (w_wfor hf hF N hw C W hL (fun k hk s' q e ne => ?_) (fun s' q e => br_t rfl ?_))
  · have e4 : (2000 : Int32) * nI p + nI k = nI (2000 * p + k) := by rw [show (2000 : Int32) = nI 2000 from rfl, pk_mul, nI_add]
    have hne : ¬ nI k = (-1 : Int32) := fun z => by
      have := congrArg Int32.toInt z
      rw [nI_toInt (by omega)] at this
      have e : ((-1 : Int32)).toInt = -1 := rfl
      omega
    refine br_f hne ?_
    rw [e4, nI_clamp (by omega), q.1 204 _ rfl, W.2.2.2.1 k hk]
    have h' := h s' q
    rw [← e, if_neg ne] at h'
    exact ⟨vp_in_nI (by omega) (by decide), h'⟩
  · have h' := h s' q
    rw [e, if_pos rfl] at h'
    exact h'
theorem w_moves_2 {x fin : Nat} {d : Int32} {Q : sT → Prop} {s : sT} (hx : x < 2 ^ 24) (hf : fin ≤ 24) (hF : rI s 193 5 = nI fin) (h : Q (wC s 200 (mvF x d fin (rA s 200)))) : ∀ m k, k + m = fin → c12_moves_2 (nI x) d (nI (k + 1)) Q (wC s 200 (mvF x d k (rA s 200)))
  | 0, k, e => by
    have e : k = fin := e
    subst e
    exact e_c12_moves_2 (e_c12_finest (br_t (by rw [rI_wC, if_neg (by omega), hF]; exact nI_lt (by omega) (by omega)) h))
  | m + 1, k, e => by
    have hN := w_moves_2 hx hf hF h m (k + 1) (by omega)
    refine e_c12_moves_2 (e_c12_finest (br_f (by rw [rI_wC, if_neg (by omega), hF]; exact nI_nlt (by omega) (by omega)) (w_isOf hx (by omega) (by omega) ?_)))
    rw [Nat.add_sub_cancel, nI_1, nI_clamp (by omega)]
    by_cases hb : x.testBit k = true
    · rw [if_pos hb]
      refine br_f (by decide) ⟨vp_in_nI (by omega) (by decide), vp_in_nI (by omega) (by decide), fun u hu => ?_⟩
      rw [rI_wC, if_pos rfl, wI_wC, mvF_s hb] at hu
      subst hu
      exact hN
    · rw [if_neg hb]
      refine br_t rfl ?_
      rw [mvF_n hb]
      exact hN
theorem mvF_all {x fin : Nat} {d : Int32} {f : Nat → Int32} (hx : x < 2 ^ fin) (hf : fin ≤ 24) : mvF x d fin f = mvF x d 24 f := by
  funext n
  unfold mvF
  by_cases z : 1 ≤ n ∧ n ≤ 24 ∧ x.testBit (n - 1) = true
  · have : n ≤ fin := by
      rcases Nat.lt_or_ge fin n with q | q
      · have h2 := t_lt hx (show fin ≤ n - 1 by omega)
        rw [z.2.2] at h2; cases h2
      · exact q
    rw [if_pos z, if_pos ⟨z.1, this, z.2.2⟩]
  · rw [if_neg z, if_neg (fun y => z ⟨y.1, by omega, y.2.2⟩)]
theorem w_moves {x fin : Nat} {d : Int32} {Q : sT → Prop} {s : sT} (hx : x < 2 ^ fin) (hf : fin ≤ 24) (hF : rI s 193 5 = nI fin) (h : Q (wC s 200 (mvF x d 24 (rA s 200)))) : c12_moves (nI x) d Q s := by
  refine e_c12_moves ?_
  have := w_moves_2 (d := d) (Nat.lt_of_lt_of_le hx (Nat.pow_le_pow_right (by decide) hf)) hf hF (Q := Q) (by rw [mvF_all hx hf]; exact h) fin 0 (Nat.zero_add _)
  have e : mvF x d 0 (rA s 200) = rA s 200 := by
    funext n
    unfold mvF
    rw [if_neg (fun z => by omega)]
  rw [e, wC_self] at this
  exact this
/-- what is kept, in the reference -/
def KpR (s : sT) (κ : kT) : Prop := rI s 200 37 = nI κ.1 ∧ κ.1 ≤ 40 ∧ ∀ k, k < κ.1 → ∀ j, j < 3 → rI s 200 (38 + 3 * k + j) = κ.2 k j
def shF (k : Nat) (f : Nat → Int32) : Nat → Int32 := fun n => if 38 ≤ n ∧ n < k then f (n + 3) else f n
theorem w_kept_64 {p x m : Nat} {Q : sT → Prop} {s : sT} (hm : 1 ≤ m ∧ m ≤ 40) (h37 : rI s 200 37 = nI m) (h : ∀ s', (∀ a j, rI s' a j = if a = 200 ∧ 38 + 3 * (m - 1) ≤ j ∧ j < 38 + 3 * m then (if j - (38 + 3 * (m - 1)) = 0 then rI s 200 0 else if j - (38 + 3 * (m - 1)) = 1 then nI p else nI x) else rI s a j) → (∀ a j, rJ s' a j = rJ s a j) → s'.2.2 = s.2.2 → Q s') : c12_isKept_64 (nI p) (nI x) Q s := by
  refine e_c12_isKept_64 (fun y hy => ?_)
  have hy2 : y = nI (38 + 3 * (m - 1)) := by
    rw [hy, h37, show (38 : Int32) = nI 38 from rfl, show (3 : Int32) = nI 3 from rfl, pk_mul, nI_add, pk_sub (by omega)]
    congr 1
    omega
  subst hy2
  rw [show (1 : Int32) = nI 1 from rfl, show (2 : Int32) = nI 2 from rfl, nI_add, nI_add]
  refine ⟨vp_in_nI (by omega) (by decide), fun u hu => ⟨vp_in_nI (by omega) (by decide), fun v hv => ⟨vp_in_nI (by omega) (by decide), fun z hz => ?_⟩⟩⟩
  rw [nI_clamp (by omega)] at hu hv hz
  refine h z (fun a j => ?_) (fun a j => by rw [hz, hv, hu]; rfl) (by rw [hz, hv, hu]; rfl)
  rw [hz, rI_wI, hv, rI_wI, hu, rI_wI]
  by_cases q : a = 200 ∧ 38 + 3 * (m - 1) ≤ j ∧ j < 38 + 3 * m
  · rw [if_pos q]
    obtain ⟨rfl, q1, q2⟩ := q
    have : j = 38 + 3 * (m - 1) ∨ j = 38 + 3 * (m - 1) + 1 ∨ j = 38 + 3 * (m - 1) + 2 := by omega
    rcases this with rfl | rfl | rfl
    · rw [if_neg (by omega), if_neg (by omega), if_pos ⟨rfl, rfl⟩, if_pos (by omega)]
    · rw [if_neg (by omega), if_pos ⟨rfl, rfl⟩, if_neg (by omega), if_pos (by omega)]
    · rw [if_pos ⟨rfl, rfl⟩, if_neg (by omega), if_neg (by omega)]
  · rw [if_neg q, if_neg (by omega), if_neg (by omega), if_neg (by omega)]
theorem w_kept_23 {p x : Nat} {Q : sT → Prop} {s : sT} (h : c12_isKept_64 (nI p) (nI x) Q (wC s 200 (shF 155 (rA s 200)))) : ∀ m k, k + m = 155 → 38 ≤ k → c12_isKept_23 (nI p) (nI x) (nI k) Q (wC s 200 (shF k (rA s 200)))
  | 0, k, e, _ => by
    have e : k = 155 := e
    subst e
    exact e_c12_isKept_23 (br_f (by decide) h)
  | m + 1, k, e, hk => by
    have hN := w_kept_23 h m (k + 1) (by omega) (by omega)
    refine e_c12_isKept_23 (br_t (nI_lt (b := 155) (by omega) (by decide)) ?_)
    rw [show nI k + (3 : Int32) = nI (k + 3) from nI_add k 3, nI_1, nI_clamp (by omega), nI_clamp (by omega)]
    refine ⟨vp_in_nI (by omega) (by decide), vp_in_nI (by omega) (by decide), fun u hu => ?_⟩
    rw [rI_wC, if_pos rfl, wI_wC] at hu
    have e : up1 (shF k (rA s 200)) k (shF k (rA s 200) (k + 3)) = shF (k + 1) (rA s 200) := by
      funext n
      unfold up1 shF
      by_cases q : n = k
      · subst q
        rw [if_pos rfl, if_neg (by omega), if_pos ⟨hk, by omega⟩]
      · rw [if_neg q]
        by_cases z : 38 ≤ n ∧ n < k
        · rw [if_pos z, if_pos ⟨z.1, by omega⟩]
        · rw [if_neg z, if_neg (fun y => by omega)]
    rw [e] at hu
    subst hu
    exact hN
/-- one more is kept -/
theorem w_kept {p x d : Nat} {κ : kT} {Q : sT → Prop} {s : sT} (ht : rI s 162 64 = 0) (K : KpR s κ) (hd : rI s 200 0 = nI d) (h : ∀ s', (∀ a j, (a ≠ 200 ∨ j < 37) → rI s' a j = rI s a j) → (∀ a j, rJ s' a j = rJ s a j) → s'.2.2 = s.2.2 → KpR s' (kA κ d p x) → Q s') : c12_isKept (nI p) (nI x) Q s := by
  obtain ⟨K1, K2, K3⟩ := K
  refine e_c12_isKept (br_t ht (br_c (fun q => ?_) (fun q u hu => ?_)))
  · have q' : κ.1 = 40 := by
      rw [K1, show (40 : Int32) = nI 40 from rfl, nI_eq (by omega) (by decide)] at q
      exact q
    have e0 : shF 38 (rA s 200) = rA s 200 := by
      funext n
      unfold shF
      rw [if_neg (by omega)]
    have := w_kept_23 (p := p) (x := x) (Q := Q) (s := s) ?_ 117 38 rfl (by decide)
    · rw [e0, wC_self] at this
      exact this
    · refine w_kept_64 (m := 40) (by decide) (by rw [rI_wC, if_pos rfl]; exact q) (fun s' g1 g2 g3 => h s' (fun a j hj => ?_) (fun a j => by rw [g2]; rfl) (by rw [g3]; rfl) ?_)
      · rw [g1, if_neg (by omega), rI_wC]
        by_cases z : a = 200
        · subst z
          rw [if_pos rfl]
          unfold shF
          rw [if_neg (by omega)]
          rfl
        · rw [if_neg z]
      · unfold kA
        rw [if_neg (by omega)]
        refine ⟨?_, Nat.le_refl 40, fun k hk j hj => ?_⟩
        · rw [g1, if_neg (by omega), rI_wC, if_pos rfl]
          unfold shF
          rw [if_neg (by omega), rA_r, K1, q']
        · have hk : k < 40 := hk
          show rI s' 200 _ = if k = 39 then kRow d p x j else κ.2 (k + 1) j
          rw [g1]
          by_cases z : k = 39
          · subst z
            rw [if_pos ⟨rfl, by omega, by omega⟩, if_pos rfl]
            have e1 : 38 + 3 * 39 + j - (38 + 3 * (40 - 1)) = j := by omega
            have e0 : shF 155 (rA s 200) 0 = nI d := by
              unfold shF
              rw [if_neg (by omega)]
              exact hd
            rw [e1, rI_wC, if_pos rfl, e0]
            rfl
          · rw [if_neg (by omega), if_neg z, rI_wC, if_pos rfl]
            unfold shF
            rw [if_pos ⟨by omega, by omega⟩, rA_r, show 38 + 3 * k + j + 3 = 38 + 3 * (k + 1) + j by omega]
            exact K3 (k + 1) (by omega) j hj
  · have q' : κ.1 < 40 := by
      rw [K1, show (40 : Int32) = nI 40 from rfl, nI_eq (by omega) (by decide)] at q
      omega
    rw [K1, nI_1] at hu
    refine w_kept_64 (m := κ.1 + 1) (by omega) (by rw [hu, rI_wI, if_pos ⟨rfl, rfl⟩]) (fun s' g1 g2 g3 => h s' (fun a j hj => ?_) (fun a j => by rw [g2, hu]; rfl) (by rw [g3, hu]; rfl) ?_)
    · rw [g1, if_neg (by omega), hu, rI_wI, if_neg (by omega)]
    · unfold kA
      rw [if_pos q']
      refine ⟨?_, by show κ.1 + 1 ≤ 40; omega, fun k hk j hj => ?_⟩
      · rw [g1, if_neg (by omega), hu, rI_wI, if_pos ⟨rfl, rfl⟩]
      · have hk : k < κ.1 + 1 := hk
        show rI s' 200 _ = if k = κ.1 then kRow d p x j else κ.2 k j
        rw [g1, Nat.add_sub_cancel]
        by_cases z : k = κ.1
        · subst z
          rw [if_pos ⟨rfl, by omega, by omega⟩, if_pos rfl]
          have e1 : 38 + 3 * κ.1 + j - (38 + 3 * κ.1) = j := by omega
          have e0 : rI u 200 0 = nI d := by
            rw [hu, rI_wI, if_neg (by omega)]
            exact hd
          rw [e1, e0]
          rfl
        · rw [if_neg (by omega), if_neg z, hu, rI_wI, if_neg (by omega)]
          exact K3 k (by omega) j hj
