/-- one more than the last day of the readings -/
def lsD (d : Nat → Nat) : Nat → Nat → Nat → Nat
  | 0, _, a => a
  | m + 1, i, a => lsD d m (i + 1) (if a < d i + 1 then d i + 1 else a)
theorem lsD_ge {d : Nat → Nat} : ∀ m i a, a ≤ lsD d m i a ∧ ∀ k, i ≤ k → k < i + m → d k + 1 ≤ lsD d m i a
  | 0, i, a => ⟨Nat.le_refl _, fun k h1 h2 => by omega⟩
  | m + 1, i, a => by
    unfold lsD
    obtain ⟨h1, h2⟩ := lsD_ge (d := d) m (i + 1) (if a < d i + 1 then d i + 1 else a)
    refine ⟨by split at h1 <;> split <;> omega, fun k g1 g2 => ?_⟩
    by_cases z : k = i
    · subst z
      split at h1 <;> split <;> omega
    · exact h2 k (by omega) (by omega)
theorem w_lastC {c : Nat} {d : Nat → Nat} {Q : Int32 → sT → Prop} {s : sT} (hc : c ≤ 16) (h7 : rI s 147 7 = nI c) (hd : ∀ r, r < c → d r ≤ 30 ∧ rI s 155 (3 * r) = nI (d r)) : ∀ (m i a : Nat) (v : Int32), i + m = c → v.toInt = (a : Int) - 1 → a ≤ 31 → (∀ r : Int32, r.toInt = (lsD d m i a : Int) - 1 → Q r s) → c5_lastSeenDay_4 v (nI i) Q s
  | 0, i, a, v, e, hv, ha, h => by
    have e : i = c := e
    subst e
    exact e_c5_lastSeenDay_4 (br_f (by rw [h7]; exact nI_nlt (Nat.le_refl _) (by omega)) (h v hv))
  | m + 1, i, a, v, e, hv, ha, h => by
    obtain ⟨d1, d2⟩ := hd i (by omega)
    unfold lsD at h
    refine e_c5_lastSeenDay_4 (br_t (by rw [h7]; exact nI_lt (by omega) (by omega)) ?_)
    rw [show (3 : Int32) = nI 3 from rfl, pk_mul, nI_clamp (by omega), Nat.mul_comm i 3, d2, nI_1]
    refine ⟨vp_in_nI (by omega) (by decide), fun x hx => ?_⟩
    have el : v < nI (d i) ↔ a < d i + 1 := by
      rw [fa_lt, hv, nI_toInt (by omega)]
      omega
    by_cases q : a < d i + 1
    · rw [if_pos q] at h
      rw [if_pos (el.2 q)] at hx
      exact w_lastC hc h7 hd m (i + 1) (d i + 1) x (by omega) (by rw [hx, nI_toInt (by omega)]; omega) (by omega) h
    · rw [if_neg q] at h
      rw [if_neg (fun z => q (el.1 z))] at hx
      exact w_lastC hc h7 hd m (i + 1) a x (by omega) (by rw [hx]; exact hv) ha h
