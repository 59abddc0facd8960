theorem likC_fr {X : Nat → Nat → Bool} {s t : sT} {lc : List Nat} (h : Fr X s t) (h1 : ∀ j, X 29 j = false) (h2 : ∀ j, X 30 j = false) (C : likC s lc) : likC t lc := by
  obtain ⟨a, b, c, d⟩ := C
  refine ⟨a, ?_, fun k hk => ?_, d⟩
  · rw [h.1 _ _ (h1 _)]; exact b
  · rw [h.1 _ _ (h2 _)]; exact c k hk
theorem wayC_fr {X : Nat → Nat → Bool} {s t : sT} {p : Nat} {L : List Nat} (h : Fr X s t) (h1 : ∀ j, X 32 j = false) (h2 : ∀ j, X 33 j = false) (C : wayC s p L) : wayC t p L := by
  obtain ⟨a, b, c, d, e⟩ := C
  refine ⟨a, b, ?_, fun k hk => ?_, e⟩
  · rw [h.1 _ _ (h2 _)]; exact c
  · rw [h.1 _ _ (h1 _)]; exact d k hk
def gdB (lc : List Nat) (w : Nat → Nat) (p n : Nat) : Bool := decide (0 < w n) && lkB lc w p n
def GB (wn : Nat) (lc : List Nat) (w : Nat → Nat) (p i : Nat) : Bool := wn.testBit i && lkB lc w p (i + 1)
theorem chs_cong {g g' : Nat → Bool} : ∀ {L : List Nat}, (∀ x ∈ L, sB x g = sB x g') → chs L g = chs L g'
  | [], _ => rfl
  | x :: r, h => by
    unfold chs
    rw [h x List.mem_cons_self, chs_cong (fun y hy => h y (List.mem_cons_of_mem _ hy))]
theorem chs_none {g : Nat → Bool} : ∀ {L : List Nat}, (∀ x ∈ L, sB x g = false) → chs L g = 0
  | [], _ => rfl
  | x :: r, h => by
    unfold chs
    rw [h x List.mem_cons_self, chs_none (fun y hy => h y (List.mem_cons_of_mem _ hy))]
    rfl
theorem chs_mem {g : Nat → Bool} : ∀ {L : List Nat}, chs L g = 0 ∨ (chs L g ∈ L ∧ sB (chs L g) g = true)
  | [] => Or.inl rfl
  | x :: r => by
    unfold chs
    split
    · rename_i h; exact Or.inr ⟨List.mem_cons_self, h⟩
    · rcases chs_mem (L := r) (g := g) with h | h
      · exact Or.inl h
      · exact Or.inr ⟨List.mem_cons_of_mem _ h.1, h.2⟩
theorem w_choose_47 {t p fin wn : Nat} {L lc : List Nat} {w : Nat → Nat} {Q : Int32 → sT → Prop} {s : sT} (ht : t = 38 ∨ t = 148) (C : likC s lc) (W : wayC s p L) (hS : ∀ n, 1 ≤ n → n < 25 → rI s (t + 1) n = nI (w n)) (hw : wB w) (hF : rI s 21 0 = nI fin) (hf : fin ≤ 24) (hwn : wn < 2 ^ 24) (h : ∀ s', Fr Xc s s' → Q (nI (chs L (bitS (mB (GB wn lc w p) fin)))) s') : ∀ m k s', k + m = fin → Fr Xc s s' → rI s' 146 2 = nI (w 0) → rI s' 146 4 = nI (w (25 + 2 * p)) → c0_choose_47 t (nI p) (nI wn) (nI (mB (GB wn lc w p) k)) (nI (k + 1)) Q s'
  | 0, k, s', e, hr, e2, e4 => by
    have e : k = fin := e
    subst e
    refine e_c0_choose_47 (br_t ?_ ?_)
    · rw [hr.1 21 0 rfl, hF]
      exact nI_lt (by omega) (by omega)
    · exact w_first (wayC_fr hr (fun _ => rfl) (fun _ => rfl) W) (h s' hr)
  | m + 1, k, s', e, hr, e2, e4 => by
    have hN := w_choose_47 ht C W hS hw hF hf hwn h m (k + 1)
    refine e_c0_choose_47 (br_f ?_ ?_)
    · rw [hr.1 21 0 rfl, hF]
      exact nI_nlt (by omega) (by omega)
    rw [nI_1, nI_pred, bit_1 (by omega) (by omega), one_shl (by omega), nI_clamp (by omega)]
    unfold mB at hN
    refine br_c (fun q u hu => ⟨vp_in_nI (by omega) (by decide), fun v hv => ?_⟩) (fun q => ?_)
    · have hu2 : rI u (t + 1) (k + 1) = nI (w (k + 1)) := by
        rw [hu, rI_wI, if_neg (by omega), hr.1 (t + 1) (k + 1) (by rcases ht with rfl | rfl <;> rfl)]
        exact hS _ (by omega) (by omega)
      rw [hu2] at hv
      have hrv : Fr Xc s v := by
        rw [hv, hu]
        exact fr_wI (fr_wI hr rfl) rfl
      have v2 : rI v 146 2 = nI (w 0) := by rw [hv, rI_wI, if_neg (by omega), hu, rI_wI, if_neg (by omega)]; exact e2
      have v4 : rI v 146 4 = nI (w (25 + 2 * p)) := by rw [hv, rI_wI, if_neg (by omega), hu, rI_wI, if_neg (by omega)]; exact e4
      refine w_lik (p := p) (n := k + 1) (w := w) (likC_fr hrv (fun _ => rfl) (fun _ => rfl) C) hw (by omega) ?_ ?_ v2 v4 (fun r g hrg => ?_)
      · rw [hv, rI_wI, if_neg (by omega), hu, rI_wI, if_pos ⟨rfl, rfl⟩]
      · rw [hv, rI_wI, if_pos ⟨rfl, rfl⟩]
      have hrg2 : Fr Xc s (wC v 31 g) := fr_wC hrv (fun _ => rfl)
      have g2 : rI (wC v 31 g) 146 2 = nI (w 0) := by rw [rI_wC, if_neg (by omega)]; exact v2
      have g4 : rI (wC v 31 g) 146 4 = nI (w (25 + 2 * p)) := by rw [rI_wC, if_neg (by omega)]; exact v4
      have hN2 := hN (wC v 31 g) (by omega) hrg2 g2 g4
      refine br_c (fun z => ?_) (fun z x hx => ?_)
      · rw [hrg] at z
        have : GB wn lc w p k = false := by unfold GB; rw [z]; simp
        simp only [this, Bool.false_eq_true, if_false, Nat.or_zero] at hN2
        exact hN2
      · have z' : lkB lc w p (k + 1) = true := by
          cases hl : lkB lc w p (k + 1) with
          | true => rfl
          | false => exact absurd (hrg.2 hl) z
        have : GB wn lc w p k = true := by unfold GB; rw [z', q]; rfl
        simp only [this, if_true] at hN2
        rw [hx, nI_or]
        exact hN2
    · have : GB wn lc w p k = false := by
        unfold GB
        cases hb : wn.testBit k with
        | true => exact absurd hb q
        | false => rfl
      have hN2 := hN s' (by omega) hr e2 e4
      simp only [this, Bool.false_eq_true, if_false, Nat.or_zero] at hN2
      exact hN2
/-- the choice, told of the class -/
theorem w_choose {t p fin : Nat} {L lc : List Nat} {w : Nat → Nat} {Q : Int32 → sT → Prop} {s : sT} (ht : t = 38 ∨ t = 148) (C : likC s lc) (W : wayC s p L) (hd : rI s t 0 = nI (w 0)) (hS : ∀ n, 1 ≤ n → n < 25 → rI s (t + 1) n = nI (w n)) (hh : rI s (t + 2) p = nI (w (25 + 2 * p))) (hw : wB w) (hF : rI s 21 0 = nI fin) (hf : fin ≤ 24) (hL : ∀ x ∈ L, x < 2 ^ fin) (h : ∀ s', Fr Xc s s' → Q (nI (chs L (gdB lc w p))) s') : c0_choose t (nI p) Q s := by
  have hw31 : ∀ n, w n < 2 ^ 31 := fun n => by have := hw n; omega
  refine e_c0_choose (w_inStock hS hw31 (w_sizes W ?_))
  generalize hSS : mB (fun i => decide (0 < w (i + 1))) 24 = S
  have hSt : ∀ i, S.testBit i = (decide (i < 24) && decide (0 < w (i + 1))) := fun i => by rw [← hSS, mB_t]
  have hsub : ∀ x ∈ L, sB x (bitS S) = sB x (fun n => decide (0 < w n)) := fun x _ => sB_cong (fun n h1 h2 _ => by
    unfold bitS
    rw [hSt, show n - 1 + 1 = n by omega]
    simp
    omega)
  have hlt : orA (bitS S) L 0 < 2 ^ 24 := orA_lt (fun x hx => (W.2.2.2.2 x hx).2) (by decide)
  have hwt : ∀ i, (orA (bitS S) L 0).testBit i = true ↔ ∃ x, x ∈ L ∧ sB x (fun n => decide (0 < w n)) = true ∧ x.testBit i = true := fun i => by
    rw [orA_t]
    simp
    constructor
    · rintro ⟨x, h1, h2, h3⟩
      exact ⟨x, h1, by rw [← hsub x h1]; exact h2, h3⟩
    · rintro ⟨x, h1, h2, h3⟩
      exact ⟨x, h1, by rw [hsub x h1]; exact h2, h3⟩
  have hgs : ∀ x, sB x (gdB lc w p) = true → sB x (fun n => decide (0 < w n)) = true := fun x hx => by
    rw [sB_iff] at hx ⊢
    intro i hi hb
    have := hx i hi hb
    unfold gdB at this
    rw [Bool.and_eq_true] at this
    exact this.1
  generalize hwn : orA (bitS S) L 0 = wn at *
  refine br_c (fun q => ?_) (fun q u hu => ⟨vp_in_nI W.1 (by decide), fun v hv => ?_⟩)
  · have q' : wn = 0 := by
      rw [show (0 : Int32) = nI 0 from rfl, nI_eq (by omega) (by decide)] at q
      exact q
    have : chs L (gdB lc w p) = 0 := chs_none (fun x hx => by
      cases hb : sB x (gdB lc w p) with
      | false => rfl
      | true =>
        obtain ⟨i, hi⟩ := Nat.exists_testBit_of_ne_zero (Nat.pos_iff_ne_zero.1 (W.2.2.2.2 x hx).1)
        have h2 : wn.testBit i = true := (hwt i).2 ⟨x, hx, hgs x hb, hi⟩
        rw [q'] at h2
        simp at h2)
    have h0 := h s fr_rf
    rw [this] at h0
    exact h0
  · have hru : Fr Xc s u := by rw [hu]; exact fr_wI fr_rf rfl
    have hrv : Fr Xc s v := by rw [hv]; exact fr_wI hru rfl
    have key : chs L (bitS (mB (GB wn lc w p) fin)) = chs L (gdB lc w p) := chs_cong (fun x hx => by
      have e : sB x (bitS (mB (GB wn lc w p) fin)) = true ↔ sB x (gdB lc w p) = true := by
        rw [sB_iff, sB_iff]
        constructor
        · intro k i hi hb
          have := k i hi hb
          unfold bitS at this
          rw [mB_t] at this
          unfold GB at this
          simp only [Nat.add_sub_cancel, Bool.and_eq_true, decide_eq_true_eq] at this
          obtain ⟨-, h2, h3⟩ := this
          obtain ⟨y, y1, y2, y3⟩ := (hwt i).1 h2
          have := sB_iff.1 y2 i hi y3
          unfold gdB
          rw [Bool.and_eq_true]
          exact ⟨this, h3⟩
        · intro k i hi hb
          have k2 := k i hi hb
          have k3 := (hwt i).2 ⟨x, hx, hgs x (sB_iff.2 k), hb⟩
          unfold gdB at k2
          rw [Bool.and_eq_true] at k2
          have hif : i < fin := by
            rcases Nat.lt_or_ge i fin with z | z
            · exact z
            · rw [t_lt (hL x hx) z] at hb; cases hb
          unfold bitS
          rw [mB_t]
          unfold GB
          simp only [Nat.add_sub_cancel, Bool.and_eq_true, decide_eq_true_eq]
          exact ⟨hif, k3, k2.2⟩
      cases h1 : sB x (bitS (mB (GB wn lc w p) fin)) <;> cases h2 : sB x (gdB lc w p) <;> simp_all)
    refine w_choose_47 ht C W hS hw hF hf hlt (fun s' hs' => by rw [key]; exact h s' hs') fin 0 v (Nat.zero_add _) hrv ?_ ?_
    · rw [hv, rI_wI, if_neg (by omega), hu, rI_wI, if_pos ⟨rfl, rfl⟩]; exact hd
    · rw [hv, rI_wI, if_pos ⟨rfl, rfl⟩, nI_clamp (by have := W.1; omega), hru.1 _ _ (by rcases ht with rfl | rfl <;> rfl)]; exact hh
