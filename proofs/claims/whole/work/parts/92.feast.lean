-- rows of a feast: 0 none, k + 1 the writing k
def cV (c : Nat) : Int32 := nI c + (-1 : Int32)
theorem cV_0 : cV 0 = (-1 : Int32) := by decide
theorem cV_s {k : Nat} : cV (k + 1) = nI k := pk_m1 _
theorem cV_i {c : Nat} (h : c < 2147483647) : (cV c).toInt = (c : Int) - 1 := by
  rcases Nat.eq_zero_or_pos c with q | q
  · rw [q]; decide
  · obtain ⟨k, rfl⟩ : ∃ k, c = k + 1 := ⟨c - 1, by omega⟩
    rw [cV_s, nI_toInt (by omega)]
    omega
theorem cV_lt {a b : Nat} (ha : a < 1000) (hb : b < 1000) : cV a < nI b ↔ a < b + 1 := by
  rw [fa_lt, cV_i (by omega), nI_toInt (by omega)]
  omega
def fz (w : Nat → Nat) (x : Nat) : Bool := sB x (fun n => decide (0 < w n))
def chR (g : Nat → List (List Nat)) : Nat → Nat → List (List Nat)
  | 0, _ => []
  | n + 1, k => g k ++ chR g n (k + 1)
def kpF (l : List Nat) : Nat := if l.length < 8 then l.length else 8
def fRows (L : Nat → List Nat) : Nat → Nat → (Nat → Nat) → List (List Nat)
  | 0, _, _ => [[]]
  | m + 1, p, w => (fRows L m (p + 1) w).map (List.cons 0) ++ chR (fun k => if fz w ((L p).getD k 0) = true then (fRows L m (p + 1) (tkW ((L p).getD k 0) w)).map (List.cons (k + 1)) else []) (kpF (L p)) 0
def cnt : List Nat → Nat
  | [] => 0
  | c :: r => (if c = 0 then 0 else 1) + cnt r
theorem cnt_le : ∀ r, cnt r ≤ r.length
  | [] => Nat.le_refl _
  | c :: r => by
    have := cnt_le r
    unfold cnt
    rw [List.length_cons]
    split <;> omega
theorem chR_mem {g : Nat → List (List Nat)} {r : List Nat} : ∀ n k, r ∈ chR g n k → ∃ j, r ∈ g j
  | 0, _, h => by cases h
  | n + 1, k, h => by
    unfold chR at h
    rw [List.mem_append] at h
    rcases h with h | h
    · exact ⟨k, h⟩
    · exact chR_mem n (k + 1) h
theorem fRows_len {L : Nat → List Nat} : ∀ m p w r, r ∈ fRows L m p w → r.length = m
  | 0, p, w, r, h => by
    unfold fRows at h
    rw [List.mem_singleton] at h
    rw [h]
    rfl
  | m + 1, p, w, r, h => by
    unfold fRows at h
    rw [List.mem_append] at h
    rcases h with h | h
    · obtain ⟨a, h1, h2⟩ := List.mem_map.1 h
      rw [← h2, List.length_cons, fRows_len m (p + 1) w a h1]
    · obtain ⟨k, h3⟩ := chR_mem _ _ h
      split at h3
      · obtain ⟨a, h1, h2⟩ := List.mem_map.1 h3
        rw [← h2, List.length_cons, fRows_len m (p + 1) _ a h1]
      · cases h3
theorem fRows_cnt {L : Nat → List Nat} {m p : Nat} {w : Nat → Nat} {r : List Nat} (h : r ∈ fRows L m p w) : cnt r ≤ m := by
  have := cnt_le r
  rw [fRows_len m p w r h] at this
  exact this
theorem fRows_ne {L : Nat → List Nat} : ∀ m p w, ∃ r, r ∈ fRows L m p w
  | 0, _, _ => ⟨[], List.mem_singleton.2 rfl⟩
  | m + 1, p, w => by
    obtain ⟨r, h⟩ := fRows_ne (L := L) m (p + 1) w
    refine ⟨0 :: r, ?_⟩
    unfold fRows
    rw [List.mem_append]
    exact Or.inl (List.mem_map.2 ⟨r, h, rfl⟩)
def cq (t : Nat) (r : List Nat) : Bool := decide (t ≤ cnt r)
theorem cq_0 {t : Nat} : (cq t ∘ List.cons 0) = cq t := funext fun r => by
  show decide (t ≤ cnt (0 :: r)) = decide (t ≤ cnt r)
  rw [show cnt (0 :: r) = 0 + cnt r from rfl, Nat.zero_add]
theorem cq_s {t k : Nat} : (cq t ∘ List.cons (k + 1)) = cq (t - 1) := funext fun r => by
  show decide (t ≤ cnt ((k + 1) :: r)) = decide (t - 1 ≤ cnt r)
  rw [decide_eq_decide]
  rw [cnt, if_neg (by omega)]
  omega
theorem find_0 {t : Nat} {l : List (List Nat)} : (l.map (List.cons 0)).find? (cq t) = (l.find? (cq t)).map (List.cons 0) := by
  rw [List.find?_map, cq_0]
theorem find_s {t k : Nat} {l : List (List Nat)} : (l.map (List.cons (k + 1))).find? (cq t) = (l.find? (cq (t - 1))).map (List.cons (k + 1)) := by
  rw [List.find?_map, cq_s]
theorem find_no {t : Nat} {l : List (List Nat)} (h : ∀ r, r ∈ l → cnt r < t) : l.find? (cq t) = none := by
  rw [List.find?_eq_none]
  intro r hr q
  have := of_decide_eq_true q
  have := h r hr
  omega
def plW (x : Nat) (w : Nat → Nat) : Nat → Nat := fun n => if 1 ≤ n ∧ n ≤ 24 ∧ x.testBit (n - 1) = true then w n + 1 else w n
theorem pl_tk {x : Nat} {w : Nat → Nat} (h : fz w x = true) : plW x (tkW x w) = w := funext fun n => by
  have hs := sB_iff.1 h
  unfold plW tkW
  by_cases z : 1 ≤ n ∧ n ≤ 24 ∧ x.testBit (n - 1) = true
  · have := hs (n - 1) (by omega) z.2.2
    rw [show n - 1 + 1 = n by omega] at this
    have := of_decide_eq_true this
    rw [if_pos z, if_pos z]
    omega
  · rw [if_neg z, if_neg z]
theorem tk_le {x : Nat} {w : Nat → Nat} {n : Nat} : tkW x w n ≤ w n := by
  unfold tkW
  split <;> omega
def rowC (s : sT) (a : Nat) : Nat → List Nat → Prop
  | _, [] => True
  | p, c :: r => rI s a p = cV c ∧ rowC s a (p + 1) r
theorem rowC_at {s : sT} {a : Nat} : ∀ {r : List Nat} {p k : Nat}, rowC s a p r → k < r.length → rI s a (p + k) = cV (r.getD k 0)
  | [], _, _, _, h => absurd h (Nat.not_lt_zero _)
  | c :: r, p, 0, h, _ => h.1
  | c :: r, p, k + 1, h, hk => by
    have := rowC_at (k := k) h.2 (by rw [List.length_cons] at hk; omega)
    rw [show p + (k + 1) = p + 1 + k by omega]
    exact this
theorem rowC_fr {s t : sT} {a b : Nat} : ∀ {r : List Nat} {p : Nat}, (∀ j, p ≤ j → j < p + r.length → rI t b j = rI s a j) → rowC s a p r → rowC t b p r
  | [], _, _, _ => trivial
  | c :: r, p, h, k => ⟨by rw [h p (Nat.le_refl _) (by rw [List.length_cons]; omega)]; exact k.1, rowC_fr (fun j h1 h2 => h j (by omega) (by rw [List.length_cons]; omega)) k.2⟩
theorem rowC_ap {s : sT} {a c : Nat} : ∀ {r : List Nat} {p : Nat}, rowC s a p r → rI s a (p + r.length) = cV c → rowC s a p (r ++ [c])
  | [], _, _, h => ⟨h, trivial⟩
  | d :: r, p, k, h => ⟨k.1, rowC_ap k.2 (by rw [← h, List.length_cons]; congr 1; omega)⟩
theorem rowC_pre {s : sT} {a c : Nat} : ∀ {r : List Nat} {p : Nat}, rowC s a p (r ++ [c]) → rowC s a p r ∧ rI s a (p + r.length) = cV c
  | [], _, h => ⟨trivial, h.1⟩
  | d :: r, p, h => by
    obtain ⟨h1, h2⟩ := rowC_pre (r := r) h.2
    refine ⟨⟨h.1, h1⟩, ?_⟩
    rw [← h2, List.length_cons]
    congr 1
    omega
-- the best of rows
def upd2 (h : Nat) (pre : List Nat) (acc : Nat × List Nat) (r : List Nat) : Nat × List Nat := if acc.1 < h + cnt r + 1 then (h + cnt r + 1, pre ++ r) else acc
theorem upd2_c {h c : Nat} {pre : List Nat} {l : List (List Nat)} {acc : Nat × List Nat} : (l.map (List.cons c)).foldl (upd2 h pre) acc = l.foldl (upd2 (h + (if c = 0 then 0 else 1)) (pre ++ [c])) acc := by
  rw [List.foldl_map]
  have e : (fun x y => upd2 h pre x (c :: y)) = upd2 (h + (if c = 0 then 0 else 1)) (pre ++ [c]) := funext fun x => funext fun y => by
    unfold upd2
    rw [cnt, List.append_assoc, ← Nat.add_assoc]
    rfl
  rw [e]
theorem upd2_skip {h : Nat} {pre : List Nat} : ∀ {l : List (List Nat)} {acc : Nat × List Nat}, (∀ r, r ∈ l → h + cnt r + 1 ≤ acc.1) → l.foldl (upd2 h pre) acc = acc
  | [], _, _ => rfl
  | a :: t, acc, g => by
    have g1 := g a List.mem_cons_self
    rw [List.foldl_cons]
    have e : upd2 h pre acc a = acc := by
      unfold upd2
      rw [if_neg (by omega)]
    rw [e]
    exact upd2_skip (fun r hr => g r (List.mem_cons_of_mem _ hr))
theorem upd2_best : ∀ (l : List (List Nat)) (acc : Nat × List Nat), (l.foldl (upd2 0 []) acc = acc ∧ ∀ r, r ∈ l → cnt r + 1 ≤ acc.1) ∨ ∃ r0, l.find? (cq (cnt r0)) = some r0 ∧ (∀ r, r ∈ l → cnt r ≤ cnt r0) ∧ acc.1 < cnt r0 + 1 ∧ l.foldl (upd2 0 []) acc = (cnt r0 + 1, r0)
  | [], acc => Or.inl ⟨rfl, fun r h => by cases h⟩
  | a :: t, acc => by
    rw [List.foldl_cons]
    by_cases q : acc.1 < 0 + cnt a + 1
    · have e : upd2 0 [] acc a = (cnt a + 1, a) := by
        unfold upd2
        rw [if_pos q, Nat.zero_add]
        rfl
      rw [e]
      rcases upd2_best t (cnt a + 1, a) with ⟨h1, h2⟩ | ⟨r0, h1, h2, h3, h4⟩
      · refine Or.inr ⟨a, ?_, fun r hr => ?_, by omega, h1⟩
        · rw [List.find?_cons_of_pos]
          exact decide_eq_true (Nat.le_refl _)
        · rcases List.mem_cons.1 hr with y | y
          · rw [y]; exact Nat.le_refl _
          · have := h2 r y
            dsimp only at this
            omega
      · dsimp only at h3
        refine Or.inr ⟨r0, ?_, fun r hr => ?_, by omega, h4⟩
        · rw [List.find?_cons_of_neg]
          · exact h1
          · intro y
            have := of_decide_eq_true y
            omega
        · rcases List.mem_cons.1 hr with y | y
          · rw [y]; omega
          · exact h2 r y
    · have e : upd2 0 [] acc a = acc := by
        unfold upd2
        rw [if_neg q]
      rw [e]
      rcases upd2_best t acc with ⟨h1, h2⟩ | ⟨r0, h1, h2, h3, h4⟩
      · refine Or.inl ⟨h1, fun r hr => ?_⟩
        rcases List.mem_cons.1 hr with y | y
        · rw [y]; omega
        · exact h2 r y
      · refine Or.inr ⟨r0, ?_, fun r hr => ?_, h3, h4⟩
        · rw [List.find?_cons_of_neg]
          · exact h1
          · intro y
            have := of_decide_eq_true y
            omega
        · rcases List.mem_cons.1 hr with y | y
          · rw [y]; omega
          · exact h2 r y
theorem fRows_best {L : Nat → List Nat} {m p : Nat} {w : Nat → Nat} : ∃ r0, (fRows L m p w).find? (cq (cnt r0)) = some r0 ∧ r0.length = m ∧ cnt r0 ≤ m ∧ (∀ r, r ∈ fRows L m p w → cnt r ≤ cnt r0) ∧ (fRows L m p w).foldl (upd2 0 []) (0, []) = (cnt r0 + 1, r0) := by
  rcases upd2_best (fRows L m p w) (0, []) with ⟨h1, h2⟩ | ⟨r0, h1, h2, h3, h4⟩
  · obtain ⟨r, hr⟩ := fRows_ne (L := L) m p w
    have := h2 r hr
    dsimp only at this
    omega
  · have hm := List.mem_of_find?_eq_some h1
    exact ⟨r0, h1, fRows_len m p w r0 hm, fRows_cnt hm, h2, h4⟩
