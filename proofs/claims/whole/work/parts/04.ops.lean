theorem m_iconst {κ : mX} {cc : ByteArray} {own : String} {dep : Nat} (C : mOk κ cc own dep) {pc : Nat} {n : Int} {v : Int32} {K : mK} (d : decode cc pc = .ok (.iconst n, 1)) (hv : Int32.ofInt n = v) (h : mAt κ (pc + 1) K) : mAt κ pc (o_push (.int v) K) := by
  obtain ⟨⟨p, l, e, R, s⟩, ⟨m, args, below, meth, c⟩, ⟨D, dA, sz, ext, adV⟩, ⟨n0, w0, mc, ms⟩, Q⟩ := κ
  intro ls st S hK H locs M hR hS hL hM hn
  exact lv_iconst C.1 C.2.1 d hv (h _ _ _ hK H locs M hR hS hL hM hn)
theorem m_bipush {κ : mX} {cc : ByteArray} {own : String} {dep : Nat} (C : mOk κ cc own dep) {pc : Nat} {n : Int} {v : Int32} {K : mK} (d : decode cc pc = .ok (.bipush n, 2)) (hv : (Int8.ofInt n).toInt32 = v) (h : mAt κ (pc + 2) K) : mAt κ pc (o_push (.int v) K) := by
  obtain ⟨⟨p, l, e, R, s⟩, ⟨m, args, below, meth, c⟩, ⟨D, dA, sz, ext, adV⟩, ⟨n0, w0, mc, ms⟩, Q⟩ := κ
  intro ls st S hK H locs M hR hS hL hM hn
  exact lv_bipush C.1 C.2.1 d hv (h _ _ _ hK H locs M hR hS hL hM hn)
theorem m_sipush {κ : mX} {cc : ByteArray} {own : String} {dep : Nat} (C : mOk κ cc own dep) {pc : Nat} {n : Int} {v : Int32} {K : mK} (d : decode cc pc = .ok (.sipush n, 3)) (hv : (Int16.ofInt n).toInt32 = v) (h : mAt κ (pc + 3) K) : mAt κ pc (o_push (.int v) K) := by
  obtain ⟨⟨p, l, e, R, s⟩, ⟨m, args, below, meth, c⟩, ⟨D, dA, sz, ext, adV⟩, ⟨n0, w0, mc, ms⟩, Q⟩ := κ
  intro ls st S hK H locs M hR hS hL hM hn
  exact lv_sipush C.1 C.2.1 d hv (h _ _ _ hK H locs M hR hS hL hM hn)
theorem m_lconst {κ : mX} {cc : ByteArray} {own : String} {dep : Nat} (C : mOk κ cc own dep) {pc : Nat} {n : Fin 2} {v : Int64} {K : mK} (d : decode cc pc = .ok (.lconst n, 1)) (hv : Int64.ofNat (n : Nat) = v) (h : mAt κ (pc + 1) K) : mAt κ pc (o_push (.long v) K) := by
  obtain ⟨⟨p, l, e, R, s⟩, ⟨m, args, below, meth, c⟩, ⟨D, dA, sz, ext, adV⟩, ⟨n0, w0, mc, ms⟩, Q⟩ := κ
  intro ls st S hK H locs M hR hS hL hM hn
  exact lv_lconst C.1 C.2.1 d hv (h _ _ _ hK H locs M hR hS hL hM hn)
theorem m_ldc {κ : mX} {cc : ByteArray} {own : String} {dep : Nat} (C : mOk κ cc own dep) {pc : Nat} {index : Nat} {v : Int32} {K : mK} (d : decode cc pc = .ok (.ldc index, 2)) (hw : Cond.constant own index v ∈ mU) (h : mAt κ (pc + 2) K) : mAt κ pc (o_push (.int v) K) := by
  obtain ⟨⟨p, l, e, R, s⟩, ⟨m, args, below, meth, c⟩, ⟨D, dA, sz, ext, adV⟩, ⟨n0, w0, mc, ms⟩, Q⟩ := κ
  intro ls st S hK H locs M hR hS hL hM hn
  exact W.ldc C.1 C.2.1 C.2.2.1 (C.2.2.2.1 _ hw) (g := F0 m pc M _) rfl d (h _ _ _ hK H locs M hR hS hL hM hn)
theorem m_ldc_w {κ : mX} {cc : ByteArray} {own : String} {dep : Nat} (C : mOk κ cc own dep) {pc : Nat} {index : Nat} {v : Int32} {K : mK} (d : decode cc pc = .ok (.ldc_w index, 3)) (hw : Cond.constant own index v ∈ mU) (h : mAt κ (pc + 3) K) : mAt κ pc (o_push (.int v) K) := by
  obtain ⟨⟨p, l, e, R, s⟩, ⟨m, args, below, meth, c⟩, ⟨D, dA, sz, ext, adV⟩, ⟨n0, w0, mc, ms⟩, Q⟩ := κ
  intro ls st S hK H locs M hR hS hL hM hn
  exact lv_ldcw C.1 C.2.1 C.2.2.1 (C.2.2.2.1 _ hw) d (h _ _ _ hK H locs M hR hS hL hM hn)
theorem m_ldc2 {κ : mX} {cc : ByteArray} {own : String} {dep : Nat} (C : mOk κ cc own dep) {pc : Nat} {index : Nat} {v : Int64} {K : mK} (d : decode cc pc = .ok (.ldc2_w index, 3)) (hw : Cond.constantLong own index v ∈ mU) (h : mAt κ (pc + 3) K) : mAt κ pc (o_push (.long v) K) := by
  obtain ⟨⟨p, l, e, R, s⟩, ⟨m, args, below, meth, c⟩, ⟨D, dA, sz, ext, adV⟩, ⟨n0, w0, mc, ms⟩, Q⟩ := κ
  intro ls st S hK H locs M hR hS hL hM hn
  exact W.ldc2 C.1 C.2.1 C.2.2.1 (C.2.2.2.1 _ hw) (g := F0 m pc M _) rfl d (h _ _ _ hK H locs M hR hS hL hM hn)
theorem m_aconst_null {κ : mX} {cc : ByteArray} {own : String} {dep : Nat} (C : mOk κ cc own dep) {pc : Nat}  {K : mK} (d : decode cc pc = .ok (.aconst_null, 1)) (h : mAt κ (pc + 1) K) : mAt κ pc (o_push .null K) := by
  obtain ⟨⟨p, l, e, R, s⟩, ⟨m, args, below, meth, c⟩, ⟨D, dA, sz, ext, adV⟩, ⟨n0, w0, mc, ms⟩, Q⟩ := κ
  intro ls st S hK H locs M hR hS hL hM hn
  exact lv_null C.1 C.2.1 d (h _ _ _ hK H locs M hR hS hL hM hn)
theorem m_iload {κ : mX} {cc : ByteArray} {own : String} {dep : Nat} (C : mOk κ cc own dep) {pc : Nat} {i : Nat} {K : mK} (d : decode cc pc = .ok (.iload i, 2)) (h : mAt κ (pc + 2) K) : mAt κ pc (o_iload i K) := by
  obtain ⟨⟨p, l, e, R, s⟩, ⟨m, args, below, meth, c⟩, ⟨D, dA, sz, ext, adV⟩, ⟨n0, w0, mc, ms⟩, Q⟩ := κ
  intro ls st S hK H locs M hR hS hL hM hn
  unfold o_iload at hK
  split at hK
  · rename_i x hx
    exact lv_iload C.1 C.2.1 d (hL.2.2 _ _ hx) (h _ _ _ hK H locs M hR hS hL hM hn)
  · exact hK.elim
theorem m_iload_n {κ : mX} {cc : ByteArray} {own : String} {dep : Nat} (C : mOk κ cc own dep) {pc : Nat} {k : Fin 4} {K : mK} (d : decode cc pc = .ok (.iload_n k, 1)) (h : mAt κ (pc + 1) K) : mAt κ pc (o_iload (k : Nat) K) := by
  obtain ⟨⟨p, l, e, R, s⟩, ⟨m, args, below, meth, c⟩, ⟨D, dA, sz, ext, adV⟩, ⟨n0, w0, mc, ms⟩, Q⟩ := κ
  intro ls st S hK H locs M hR hS hL hM hn
  unfold o_iload at hK
  split at hK
  · rename_i x hx
    exact lv_iload_n C.1 C.2.1 d rfl (hL.2.2 _ _ hx) (h _ _ _ hK H locs M hR hS hL hM hn)
  · exact hK.elim
theorem m_lload {κ : mX} {cc : ByteArray} {own : String} {dep : Nat} (C : mOk κ cc own dep) {pc : Nat} {i : Nat} {K : mK} (d : decode cc pc = .ok (.lload i, 2)) (h : mAt κ (pc + 2) K) : mAt κ pc (o_lload i K) := by
  obtain ⟨⟨p, l, e, R, s⟩, ⟨m, args, below, meth, c⟩, ⟨D, dA, sz, ext, adV⟩, ⟨n0, w0, mc, ms⟩, Q⟩ := κ
  intro ls st S hK H locs M hR hS hL hM hn
  unfold o_lload at hK
  split at hK
  · rename_i x hx
    exact lv_lload C.1 C.2.1 d (hL.2.2 _ _ hx) (h _ _ _ hK H locs M hR hS hL hM hn)
  · exact hK.elim
theorem m_lload_n {κ : mX} {cc : ByteArray} {own : String} {dep : Nat} (C : mOk κ cc own dep) {pc : Nat} {k : Fin 4} {K : mK} (d : decode cc pc = .ok (.lload_n k, 1)) (h : mAt κ (pc + 1) K) : mAt κ pc (o_lload (k : Nat) K) := by
  obtain ⟨⟨p, l, e, R, s⟩, ⟨m, args, below, meth, c⟩, ⟨D, dA, sz, ext, adV⟩, ⟨n0, w0, mc, ms⟩, Q⟩ := κ
  intro ls st S hK H locs M hR hS hL hM hn
  unfold o_lload at hK
  split at hK
  · rename_i x hx
    exact lv_lload_n C.1 C.2.1 d rfl (hL.2.2 _ _ hx) (h _ _ _ hK H locs M hR hS hL hM hn)
  · exact hK.elim
theorem m_aload {κ : mX} {cc : ByteArray} {own : String} {dep : Nat} (C : mOk κ cc own dep) {pc : Nat} {i : Nat} {K : mK} (d : decode cc pc = .ok (.aload i, 2)) (h : mAt κ (pc + 2) K) : mAt κ pc (o_aload i K) := by
  obtain ⟨⟨p, l, e, R, s⟩, ⟨m, args, below, meth, c⟩, ⟨D, dA, sz, ext, adV⟩, ⟨n0, w0, mc, ms⟩, Q⟩ := κ
  intro ls st S hK H locs M hR hS hL hM hn
  unfold o_aload at hK
  split at hK
  · rename_i x hx
    exact lv_aload C.1 C.2.1 d (hL.2.2 _ _ hx) (h _ _ _ hK H locs M hR hS hL hM hn)
  · exact hK.elim
theorem m_aload_n {κ : mX} {cc : ByteArray} {own : String} {dep : Nat} (C : mOk κ cc own dep) {pc : Nat} {k : Fin 4} {K : mK} (d : decode cc pc = .ok (.aload_n k, 1)) (h : mAt κ (pc + 1) K) : mAt κ pc (o_aload (k : Nat) K) := by
  obtain ⟨⟨p, l, e, R, s⟩, ⟨m, args, below, meth, c⟩, ⟨D, dA, sz, ext, adV⟩, ⟨n0, w0, mc, ms⟩, Q⟩ := κ
  intro ls st S hK H locs M hR hS hL hM hn
  unfold o_aload at hK
  split at hK
  · rename_i x hx
    exact lv_aload_n C.1 C.2.1 d rfl (hL.2.2 _ _ hx) (h _ _ _ hK H locs M hR hS hL hM hn)
  · exact hK.elim
def lcl1 (ls : mL) (j : Nat) : mL := match ls[j]? with
  | some (some (.long _)) => ls.set j none
  | some (some (.double _)) => ls.set j none
  | _ => ls
def lcl (ls : mL) (i : Nat) : mL := match i with
  | 0 => ls
  | j + 1 => lcl1 ls j
def ls1 (ls : mL) (i : Nat) (v : Value) : mL := (lcl ls i).set i (some v)
def ls2 (ls : mL) (i : Nat) (v : Value) : mL := ((lcl ls i).set (i + 1) none).set i (some v)
theorem lcl1_len (ls : mL) (i : Nat) : (lcl1 ls i).length = ls.length := by
  unfold lcl1; split <;> first | rfl | simp
theorem lcl_len (ls : mL) (i : Nat) : (lcl ls i).length = ls.length := by
  cases i with
  | zero => rfl
  | succ j => exact lcl1_len ls j
theorem lcl_at {ls : mL} {i j : Nat} {v : Value} (h : (lcl ls i)[j]? = some (some v)) : ls[j]? = some (some v) ∧ ¬ (j + 1 = i ∧ v.category = 2) := by
  cases i with
  | zero => exact ⟨h, fun q => by omega⟩
  | succ k =>
    have h : (lcl1 ls k)[j]? = some (some v) := h
    unfold lcl1 at h
    by_cases hk : k = j
    · subst hk
      split at h
      · rw [List.getElem?_set] at h
        simp at h
      · rw [List.getElem?_set] at h
        simp at h
      · rename_i h1 h2
        refine ⟨h, fun q => ?_⟩
        cases v with
        | long z => exact h1 _ h
        | double z => exact h2 _ h
        | _ => simp [Value.category] at q
    · refine ⟨?_, fun q => by omega⟩
      split at h
      · rw [List.getElem?_set_ne hk] at h; exact h
      · rw [List.getElem?_set_ne hk] at h; exact h
      · exact h
def las (ad : Nat → Nat) (ls : mL) : List (Nat × Value) := (List.range ls.length).filterMap (fun i => match ls[i]? with
  | some (some v) => some (i, cv ad v)
  | _ => none)
theorem las_mem {ad : Nat → Nat} {ls : mL} {i : Nat} {v : Value} (h : ls[i]? = some (some v)) : (i, cv ad v) ∈ las ad ls := by
  unfold las
  rw [List.mem_filterMap]
  exact ⟨i, List.mem_range.mpr (List.getElem?_eq_some_iff.mp h).1, by rw [h]⟩
theorem las_has {ad : Nat → Nat} {ls : mL} {M : Array Slot} (h : lR ad ls M) : lv_has M ls.length (las ad ls) := by
  refine ⟨h.1, h.2.1, fun q hq => ?_⟩
  unfold las at hq
  rw [List.mem_filterMap] at hq
  obtain ⟨i, -, hi⟩ := hq
  split at hi
  · rename_i v hv
    cases hi
    exact h.2.2 _ _ hv
  · cases hi
theorem cv_cat (ad : Nat → Nat) (v : Value) : (cv ad v).category = v.category := by cases v <;> rfl
theorem lR_st1 {ad : Nat → Nat} {ls : mL} {M M' : Array Slot} {i : Nat} {v : Value} (h : lv_has M' ls.length ((i, cv ad v) :: (las ad ls).filter (fun q => !(q.1 == i) && !(q.1 + 1 == i && q.2.category == 2)))) : lR ad (ls1 ls i v) M' := by
  refine ⟨by rw [h.1]; simp [ls1, lcl_len], h.2.1, fun j w hj => ?_⟩
  unfold ls1 at hj
  by_cases e : i = j
  · subst e
    rw [List.getElem?_set] at hj
    simp only [if_true] at hj
    split at hj
    · cases hj
      exact h.2.2 (i, _) List.mem_cons_self
    · cases hj
  · rw [List.getElem?_set_ne e] at hj
    obtain ⟨h1, h2⟩ := lcl_at hj
    refine h.2.2 (j, _) (List.mem_cons_of_mem _ (List.mem_filter.mpr ⟨las_mem h1, ?_⟩))
    simp only [cv_cat, Bool.and_eq_true, Bool.not_eq_true', Bool.and_eq_false_iff, beq_eq_false_iff_ne]
    refine ⟨Ne.symm e, ?_⟩
    by_cases q : j + 1 = i
    · exact Or.inr (fun z => h2 ⟨q, (cv_cat ad w).symm.trans z⟩)
    · exact Or.inl q
theorem lR_st2 {ad : Nat → Nat} {ls : mL} {M M' : Array Slot} {i : Nat} {v : Value} (h : lv_has M' ls.length ((i, cv ad v) :: (las ad ls).filter (fun q => !(q.1 == i) && (!(q.1 == i + 1) && !(q.1 + 1 == i && q.2.category == 2))))) : lR ad (ls2 ls i v) M' := by
  refine ⟨by rw [h.1]; simp [ls2, lcl_len], h.2.1, fun j w hj => ?_⟩
  unfold ls2 at hj
  by_cases e : i = j
  · subst e
    rw [List.getElem?_set] at hj
    simp only [if_true] at hj
    split at hj
    · cases hj
      exact h.2.2 (i, _) List.mem_cons_self
    · cases hj
  · rw [List.getElem?_set_ne e] at hj
    by_cases e1 : i + 1 = j
    · subst e1
      rw [List.getElem?_set] at hj
      simp at hj
    · rw [List.getElem?_set_ne e1] at hj
      obtain ⟨h1, h2⟩ := lcl_at hj
      refine h.2.2 (j, _) (List.mem_cons_of_mem _ (List.mem_filter.mpr ⟨las_mem h1, ?_⟩))
      simp only [cv_cat, Bool.and_eq_true, Bool.not_eq_true', Bool.and_eq_false_iff, beq_eq_false_iff_ne]
      refine ⟨Ne.symm e, Ne.symm e1, ?_⟩
      by_cases q : j + 1 = i
      · exact Or.inr (fun z => h2 ⟨q, (cv_cat ad w).symm.trans z⟩)
      · exact Or.inl q
theorem lR_len1 {ad : Nat → Nat} {ls : mL} {M M' : Array Slot} {i : Nat} {v : Value} (h : lR ad ls M) (h' : lR ad (ls1 ls i v) M') : M'.size = M.size := by
  rw [h'.1, h.1]; simp [ls1, lcl_len]
theorem lR_len2 {ad : Nat → Nat} {ls : mL} {M M' : Array Slot} {i : Nat} {v : Value} (h : lR ad ls M) (h' : lR ad (ls2 ls i v) M') : M'.size = M.size := by
  rw [h'.1, h.1]; simp [ls2, lcl_len]
abbrev glt (a b : Nat) (A : Prop) : Prop := match Nat.blt a b with
  | true => A
  | false => False
theorem glt_of {a b : Nat} {A : Prop} (h : glt a b A) : a < b ∧ A := by
  unfold glt at h
  split at h
  · rename_i q
    exact ⟨Nat.lt_of_succ_le (Nat.le_of_ble_eq_true q), h⟩
  · exact h.elim

abbrev o_istore (i : Nat) (K : mK) : mK := fun ls st S => match st with
  | .int x :: st => glt (i) ls.length (K (ls1 ls i (.int x)) st S)
  | _ => False
theorem m_istore {κ : mX} {cc : ByteArray} {own : String} {dep : Nat} (C : mOk κ cc own dep) {pc : Nat} {i : Nat} {K : mK} (d : decode cc pc = .ok (.istore i, 2)) (h : mAt κ (pc + 2) K) : mAt κ pc (o_istore i K) := by
  obtain ⟨⟨p, l, e, R, s⟩, ⟨m, args, below, meth, c⟩, ⟨D, dA, sz, ext, adV⟩, ⟨n0, w0, mc, ms⟩, Q⟩ := κ
  intro ls st S hK H locs M hR hS hL hM hn
  unfold o_istore at hK
  split at hK
  · rename_i x st
    obtain ⟨hi, hK⟩ := glt_of hK
    exact lv_istore (i := i) (lv := las (mAd sz ext) ls) C.1 C.2.1 d (las_has hL) hi rfl (fun M2 hL2 => h _ _ _ hK H locs M2 hR hS (lR_st1 (M := M) hL2) (hM.trans (lR_len1 hL (lR_st1 (M := M) (v := .int x) hL2)).symm) hn)
  · exact hK.elim
theorem m_istore_n {κ : mX} {cc : ByteArray} {own : String} {dep : Nat} (C : mOk κ cc own dep) {pc : Nat} {k : Fin 4} {K : mK} (d : decode cc pc = .ok (.istore_n k, 1)) (h : mAt κ (pc + 1) K) : mAt κ pc (o_istore (k : Nat) K) := by
  obtain ⟨⟨p, l, e, R, s⟩, ⟨m, args, below, meth, c⟩, ⟨D, dA, sz, ext, adV⟩, ⟨n0, w0, mc, ms⟩, Q⟩ := κ
  intro ls st S hK H locs M hR hS hL hM hn
  unfold o_istore at hK
  split at hK
  · rename_i x st
    obtain ⟨hi, hK⟩ := glt_of hK
    exact lv_istore_n (i := (k : Nat)) (lv := las (mAd sz ext) ls) C.1 C.2.1 d rfl (las_has hL) hi rfl (fun M2 hL2 => h _ _ _ hK H locs M2 hR hS (lR_st1 (M := M) hL2) (hM.trans (lR_len1 hL (lR_st1 (M := M) (v := .int x) hL2)).symm) hn)
  · exact hK.elim
abbrev o_lstore (i : Nat) (K : mK) : mK := fun ls st S => match st with
  | .long x :: st => glt (i + 1) ls.length (K (ls2 ls i (.long x)) st S)
  | _ => False
theorem m_lstore {κ : mX} {cc : ByteArray} {own : String} {dep : Nat} (C : mOk κ cc own dep) {pc : Nat} {i : Nat} {K : mK} (d : decode cc pc = .ok (.lstore i, 2)) (h : mAt κ (pc + 2) K) : mAt κ pc (o_lstore i K) := by
  obtain ⟨⟨p, l, e, R, s⟩, ⟨m, args, below, meth, c⟩, ⟨D, dA, sz, ext, adV⟩, ⟨n0, w0, mc, ms⟩, Q⟩ := κ
  intro ls st S hK H locs M hR hS hL hM hn
  unfold o_lstore at hK
  split at hK
  · rename_i x st
    obtain ⟨hi, hK⟩ := glt_of hK
    exact lv_lstore (i := i) (lv := las (mAd sz ext) ls) C.1 C.2.1 d (las_has hL) hi rfl (fun M2 hL2 => h _ _ _ hK H locs M2 hR hS (lR_st2 (M := M) hL2) (hM.trans (lR_len2 hL (lR_st2 (M := M) (v := .long x) hL2)).symm) hn)
  · exact hK.elim
theorem m_lstore_n {κ : mX} {cc : ByteArray} {own : String} {dep : Nat} (C : mOk κ cc own dep) {pc : Nat} {k : Fin 4} {K : mK} (d : decode cc pc = .ok (.lstore_n k, 1)) (h : mAt κ (pc + 1) K) : mAt κ pc (o_lstore (k : Nat) K) := by
  obtain ⟨⟨p, l, e, R, s⟩, ⟨m, args, below, meth, c⟩, ⟨D, dA, sz, ext, adV⟩, ⟨n0, w0, mc, ms⟩, Q⟩ := κ
  intro ls st S hK H locs M hR hS hL hM hn
  unfold o_lstore at hK
  split at hK
  · rename_i x st
    obtain ⟨hi, hK⟩ := glt_of hK
    exact lv_lstore_n (i := (k : Nat)) (lv := las (mAd sz ext) ls) C.1 C.2.1 d rfl (las_has hL) hi rfl (fun M2 hL2 => h _ _ _ hK H locs M2 hR hS (lR_st2 (M := M) hL2) (hM.trans (lR_len2 hL (lR_st2 (M := M) (v := .long x) hL2)).symm) hn)
  · exact hK.elim
abbrev o_astore (i : Nat) (K : mK) : mK := fun ls st S => match st with
  | .ref x :: st => glt (i) ls.length (K (ls1 ls i (.ref x)) st S)
  | _ => False
theorem m_astore {κ : mX} {cc : ByteArray} {own : String} {dep : Nat} (C : mOk κ cc own dep) {pc : Nat} {i : Nat} {K : mK} (d : decode cc pc = .ok (.astore i, 2)) (h : mAt κ (pc + 2) K) : mAt κ pc (o_astore i K) := by
  obtain ⟨⟨p, l, e, R, s⟩, ⟨m, args, below, meth, c⟩, ⟨D, dA, sz, ext, adV⟩, ⟨n0, w0, mc, ms⟩, Q⟩ := κ
  intro ls st S hK H locs M hR hS hL hM hn
  unfold o_astore at hK
  split at hK
  · rename_i x st
    obtain ⟨hi, hK⟩ := glt_of hK
    exact lv_astore (i := i) (lv := las (mAd sz ext) ls) C.1 C.2.1 d (las_has hL) hi rfl (fun M2 hL2 => h _ _ _ hK H locs M2 hR hS (lR_st1 (M := M) hL2) (hM.trans (lR_len1 hL (lR_st1 (M := M) (v := .ref x) hL2)).symm) hn)
  · exact hK.elim
theorem m_astore_n {κ : mX} {cc : ByteArray} {own : String} {dep : Nat} (C : mOk κ cc own dep) {pc : Nat} {k : Fin 4} {K : mK} (d : decode cc pc = .ok (.astore_n k, 1)) (h : mAt κ (pc + 1) K) : mAt κ pc (o_astore (k : Nat) K) := by
  obtain ⟨⟨p, l, e, R, s⟩, ⟨m, args, below, meth, c⟩, ⟨D, dA, sz, ext, adV⟩, ⟨n0, w0, mc, ms⟩, Q⟩ := κ
  intro ls st S hK H locs M hR hS hL hM hn
  unfold o_astore at hK
  split at hK
  · rename_i x st
    obtain ⟨hi, hK⟩ := glt_of hK
    exact lv_astore_n (i := (k : Nat)) (lv := las (mAd sz ext) ls) C.1 C.2.1 d rfl (las_has hL) hi rfl (fun M2 hL2 => h _ _ _ hK H locs M2 hR hS (lR_st1 (M := M) hL2) (hM.trans (lR_len1 hL (lR_st1 (M := M) (v := .ref x) hL2)).symm) hn)
  · exact hK.elim
abbrev o_iinc (i : Nat) (n : Int32) (K : mK) : mK := fun ls st S => match ls[i]? with
  | some (some (.int x)) => glt i ls.length (K (ls1 ls i (.int (x + n))) st S)
  | _ => False
theorem m_iinc {κ : mX} {cc : ByteArray} {own : String} {dep : Nat} (C : mOk κ cc own dep) {pc : Nat} {i : Nat} {n : Int} {v : Int32} {K : mK} (d : decode cc pc = .ok (.iinc i n, 3)) (hv : Int32.ofInt n = v) (h : mAt κ (pc + 3) K) : mAt κ pc (o_iinc i v K) := by
  obtain ⟨⟨p, l, e, R, s⟩, ⟨m, args, below, meth, c⟩, ⟨D, dA, sz, ext, adV⟩, ⟨n0, w0, mc, ms⟩, Q⟩ := κ
  intro ls st S hK H locs M hR hS hL hM hn
  unfold o_iinc at hK
  split at hK
  · rename_i x hx
    obtain ⟨hi, hK⟩ := glt_of hK
    obtain ⟨k, hk⟩ := List.getElem?_of_mem (las_mem (ad := mAd sz ext) hx)
    exact lv_iinc (v := x + v) (lv := las (mAd sz ext) ls) C.1 C.2.1 d (las_has hL) hk (by rw [hv]) hi rfl (fun M2 hL2 => h _ _ _ hK H locs M2 hR hS (lR_st1 (M := M) hL2) (hM.trans (lR_len1 hL (lR_st1 (M := M) (v := .int (x + v)) hL2)).symm) hn)
  · exact hK.elim
theorem m_isub {κ : mX} {cc : ByteArray} {own : String} {dep : Nat} (C : mOk κ cc own dep) {pc : Nat}  {K : mK} (d : decode cc pc = .ok (.isub, 1)) (h : mAt κ (pc + 1) K) : mAt κ pc (o_ii (fun x y => x - y) K) := by
  obtain ⟨⟨p, l, e, R, s⟩, ⟨m, args, below, meth, c⟩, ⟨D, dA, sz, ext, adV⟩, ⟨n0, w0, mc, ms⟩, Q⟩ := κ
  intro ls st S hK H locs M hR hS hL hM hn
  unfold o_ii at hK
  split at hK
  · exact lv_isub C.1 C.2.1 d (h _ _ _ hK H locs M hR hS hL hM hn)
  · exact hK.elim
theorem m_imul {κ : mX} {cc : ByteArray} {own : String} {dep : Nat} (C : mOk κ cc own dep) {pc : Nat}  {K : mK} (d : decode cc pc = .ok (.imul, 1)) (h : mAt κ (pc + 1) K) : mAt κ pc (o_ii (fun x y => x * y) K) := by
  obtain ⟨⟨p, l, e, R, s⟩, ⟨m, args, below, meth, c⟩, ⟨D, dA, sz, ext, adV⟩, ⟨n0, w0, mc, ms⟩, Q⟩ := κ
  intro ls st S hK H locs M hR hS hL hM hn
  unfold o_ii at hK
  split at hK
  · exact lv_imul C.1 C.2.1 d (h _ _ _ hK H locs M hR hS hL hM hn)
  · exact hK.elim
theorem m_iand {κ : mX} {cc : ByteArray} {own : String} {dep : Nat} (C : mOk κ cc own dep) {pc : Nat}  {K : mK} (d : decode cc pc = .ok (.iand, 1)) (h : mAt κ (pc + 1) K) : mAt κ pc (o_ii (fun x y => x &&& y) K) := by
  obtain ⟨⟨p, l, e, R, s⟩, ⟨m, args, below, meth, c⟩, ⟨D, dA, sz, ext, adV⟩, ⟨n0, w0, mc, ms⟩, Q⟩ := κ
  intro ls st S hK H locs M hR hS hL hM hn
  unfold o_ii at hK
  split at hK
  · exact lv_iand C.1 C.2.1 d (h _ _ _ hK H locs M hR hS hL hM hn)
  · exact hK.elim
theorem m_ior {κ : mX} {cc : ByteArray} {own : String} {dep : Nat} (C : mOk κ cc own dep) {pc : Nat}  {K : mK} (d : decode cc pc = .ok (.ior, 1)) (h : mAt κ (pc + 1) K) : mAt κ pc (o_ii (fun x y => x ||| y) K) := by
  obtain ⟨⟨p, l, e, R, s⟩, ⟨m, args, below, meth, c⟩, ⟨D, dA, sz, ext, adV⟩, ⟨n0, w0, mc, ms⟩, Q⟩ := κ
  intro ls st S hK H locs M hR hS hL hM hn
  unfold o_ii at hK
  split at hK
  · exact lv_ior C.1 C.2.1 d (h _ _ _ hK H locs M hR hS hL hM hn)
  · exact hK.elim
theorem m_ixor {κ : mX} {cc : ByteArray} {own : String} {dep : Nat} (C : mOk κ cc own dep) {pc : Nat}  {K : mK} (d : decode cc pc = .ok (.ixor, 1)) (h : mAt κ (pc + 1) K) : mAt κ pc (o_ii (fun x y => x ^^^ y) K) := by
  obtain ⟨⟨p, l, e, R, s⟩, ⟨m, args, below, meth, c⟩, ⟨D, dA, sz, ext, adV⟩, ⟨n0, w0, mc, ms⟩, Q⟩ := κ
  intro ls st S hK H locs M hR hS hL hM hn
  unfold o_ii at hK
  split at hK
  · exact lv_ixor C.1 C.2.1 d (h _ _ _ hK H locs M hR hS hL hM hn)
  · exact hK.elim
theorem m_ishl {κ : mX} {cc : ByteArray} {own : String} {dep : Nat} (C : mOk κ cc own dep) {pc : Nat}  {K : mK} (d : decode cc pc = .ok (.ishl, 1)) (h : mAt κ (pc + 1) K) : mAt κ pc (o_ii (fun x y => x <<< (y &&& 31)) K) := by
  obtain ⟨⟨p, l, e, R, s⟩, ⟨m, args, below, meth, c⟩, ⟨D, dA, sz, ext, adV⟩, ⟨n0, w0, mc, ms⟩, Q⟩ := κ
  intro ls st S hK H locs M hR hS hL hM hn
  unfold o_ii at hK
  split at hK
  · exact lv_ishl C.1 C.2.1 d (h _ _ _ hK H locs M hR hS hL hM hn)
  · exact hK.elim
theorem m_ishr {κ : mX} {cc : ByteArray} {own : String} {dep : Nat} (C : mOk κ cc own dep) {pc : Nat}  {K : mK} (d : decode cc pc = .ok (.ishr, 1)) (h : mAt κ (pc + 1) K) : mAt κ pc (o_ii (fun x y => x >>> (y &&& 31)) K) := by
  obtain ⟨⟨p, l, e, R, s⟩, ⟨m, args, below, meth, c⟩, ⟨D, dA, sz, ext, adV⟩, ⟨n0, w0, mc, ms⟩, Q⟩ := κ
  intro ls st S hK H locs M hR hS hL hM hn
  unfold o_ii at hK
  split at hK
  · exact lv_ishr C.1 C.2.1 d (h _ _ _ hK H locs M hR hS hL hM hn)
  · exact hK.elim
theorem m_iushr {κ : mX} {cc : ByteArray} {own : String} {dep : Nat} (C : mOk κ cc own dep) {pc : Nat}  {K : mK} (d : decode cc pc = .ok (.iushr, 1)) (h : mAt κ (pc + 1) K) : mAt κ pc (o_ii (fun x y => (x.toUInt32 >>> (y.toUInt32 &&& Int32.toUInt32 31)).toInt32) K) := by
  obtain ⟨⟨p, l, e, R, s⟩, ⟨m, args, below, meth, c⟩, ⟨D, dA, sz, ext, adV⟩, ⟨n0, w0, mc, ms⟩, Q⟩ := κ
  intro ls st S hK H locs M hR hS hL hM hn
  unfold o_ii at hK
  split at hK
  · exact lv_iushr C.1 C.2.1 d rfl (h _ _ _ hK H locs M hR hS hL hM hn)
  · exact hK.elim
abbrev o_jj (f : Int64 → Int64 → Int64) (K : mK) : mK := fun ls st S => match st with
  | .long y :: .long x :: st => K ls (.long (f x y) :: st) S
  | _ => False
abbrev o_iid (f : Int32 → Int32 → Int32) (K : mK) : mK := fun ls st S => match st with
  | .int y :: .int x :: st => ¬ y = 0 ∧ K ls (.int (f x y) :: st) S
  | _ => False
abbrev o_jjd (f : Int64 → Int64 → Int64) (K : mK) : mK := fun ls st S => match st with
  | .long y :: .long x :: st => ¬ y = 0 ∧ K ls (.long (f x y) :: st) S
  | _ => False
abbrev o_lcmp (K : mK) : mK := fun ls st S => match st with
  | .long y :: .long x :: st => K ls (.int (lg_cmp x y) :: st) S
  | _ => False
abbrev o_i2l (K : mK) : mK := fun ls st S => match st with
  | .int x :: st => K ls (.long x.toInt64 :: st) S
  | _ => False
abbrev o_l2i (K : mK) : mK := fun ls st S => match st with
  | .long x :: st => K ls (.int x.toInt32 :: st) S
  | _ => False
abbrev o_dup (K : mK) : mK := fun ls st S => match st with
  | .int x :: st => K ls (.int x :: .int x :: st) S
  | .ref x :: st => K ls (.ref x :: .ref x :: st) S
  | _ => False
abbrev o_pop (K : mK) : mK := fun ls st S => match st with
  | .int x :: st => K ls st S
  | .ref x :: st => K ls st S
  | _ => False
abbrev o_dup2 (K : mK) : mK := fun ls st S => match st with
  | .int y :: .int x :: st => K ls (.int y :: .int x :: .int y :: .int x :: st) S
  | .int y :: .ref x :: st => K ls (.int y :: .ref x :: .int y :: .ref x :: st) S
  | .long x :: st => K ls (.long x :: .long x :: st) S
  | _ => False
theorem m_ladd {κ : mX} {cc : ByteArray} {own : String} {dep : Nat} (C : mOk κ cc own dep) {pc : Nat}  {K : mK} (d : decode cc pc = .ok (.ladd, 1)) (h : mAt κ (pc + 1) K) : mAt κ pc (o_jj (fun x y => x + y) K) := by
  obtain ⟨⟨p, l, e, R, s⟩, ⟨m, args, below, meth, c⟩, ⟨D, dA, sz, ext, adV⟩, ⟨n0, w0, mc, ms⟩, Q⟩ := κ
  intro ls st S hK H locs M hR hS hL hM hn
  unfold o_jj at hK
  split at hK
  · exact lv_ladd C.1 C.2.1 d (h _ _ _ hK H locs M hR hS hL hM hn)
  · exact hK.elim
theorem m_lsub {κ : mX} {cc : ByteArray} {own : String} {dep : Nat} (C : mOk κ cc own dep) {pc : Nat}  {K : mK} (d : decode cc pc = .ok (.lsub, 1)) (h : mAt κ (pc + 1) K) : mAt κ pc (o_jj (fun x y => x - y) K) := by
  obtain ⟨⟨p, l, e, R, s⟩, ⟨m, args, below, meth, c⟩, ⟨D, dA, sz, ext, adV⟩, ⟨n0, w0, mc, ms⟩, Q⟩ := κ
  intro ls st S hK H locs M hR hS hL hM hn
  unfold o_jj at hK
  split at hK
  · exact lv_lsub C.1 C.2.1 d (h _ _ _ hK H locs M hR hS hL hM hn)
  · exact hK.elim
theorem m_lmul {κ : mX} {cc : ByteArray} {own : String} {dep : Nat} (C : mOk κ cc own dep) {pc : Nat}  {K : mK} (d : decode cc pc = .ok (.lmul, 1)) (h : mAt κ (pc + 1) K) : mAt κ pc (o_jj (fun x y => x * y) K) := by
  obtain ⟨⟨p, l, e, R, s⟩, ⟨m, args, below, meth, c⟩, ⟨D, dA, sz, ext, adV⟩, ⟨n0, w0, mc, ms⟩, Q⟩ := κ
  intro ls st S hK H locs M hR hS hL hM hn
  unfold o_jj at hK
  split at hK
  · exact lv_lmul C.1 C.2.1 d (h _ _ _ hK H locs M hR hS hL hM hn)
  · exact hK.elim
theorem m_land {κ : mX} {cc : ByteArray} {own : String} {dep : Nat} (C : mOk κ cc own dep) {pc : Nat}  {K : mK} (d : decode cc pc = .ok (.land, 1)) (h : mAt κ (pc + 1) K) : mAt κ pc (o_jj (fun x y => x &&& y) K) := by
  obtain ⟨⟨p, l, e, R, s⟩, ⟨m, args, below, meth, c⟩, ⟨D, dA, sz, ext, adV⟩, ⟨n0, w0, mc, ms⟩, Q⟩ := κ
  intro ls st S hK H locs M hR hS hL hM hn
  unfold o_jj at hK
  split at hK
  · exact lv_land C.1 C.2.1 d (h _ _ _ hK H locs M hR hS hL hM hn)
  · exact hK.elim
theorem m_idiv {κ : mX} {cc : ByteArray} {own : String} {dep : Nat} (C : mOk κ cc own dep) {pc : Nat}  {K : mK} (d : decode cc pc = .ok (.idiv, 1)) (h : mAt κ (pc + 1) K) : mAt κ pc (o_iid (fun x y => x / y) K) := by
  obtain ⟨⟨p, l, e, R, s⟩, ⟨m, args, below, meth, c⟩, ⟨D, dA, sz, ext, adV⟩, ⟨n0, w0, mc, ms⟩, Q⟩ := κ
  intro ls st S hK H locs M hR hS hL hM hn
  unfold o_iid at hK
  split at hK
  · exact lv_idiv C.1 C.2.1 d hK.1 (h _ _ _ hK.2 H locs M hR hS hL hM hn)
  · exact hK.elim
theorem m_irem {κ : mX} {cc : ByteArray} {own : String} {dep : Nat} (C : mOk κ cc own dep) {pc : Nat}  {K : mK} (d : decode cc pc = .ok (.irem, 1)) (h : mAt κ (pc + 1) K) : mAt κ pc (o_iid (fun x y => x - x / y * y) K) := by
  obtain ⟨⟨p, l, e, R, s⟩, ⟨m, args, below, meth, c⟩, ⟨D, dA, sz, ext, adV⟩, ⟨n0, w0, mc, ms⟩, Q⟩ := κ
  intro ls st S hK H locs M hR hS hL hM hn
  unfold o_iid at hK
  split at hK
  · exact lv_irem C.1 C.2.1 d hK.1 (h _ _ _ hK.2 H locs M hR hS hL hM hn)
  · exact hK.elim
theorem m_ldiv {κ : mX} {cc : ByteArray} {own : String} {dep : Nat} (C : mOk κ cc own dep) {pc : Nat}  {K : mK} (d : decode cc pc = .ok (.ldiv, 1)) (h : mAt κ (pc + 1) K) : mAt κ pc (o_jjd (fun x y => x / y) K) := by
  obtain ⟨⟨p, l, e, R, s⟩, ⟨m, args, below, meth, c⟩, ⟨D, dA, sz, ext, adV⟩, ⟨n0, w0, mc, ms⟩, Q⟩ := κ
  intro ls st S hK H locs M hR hS hL hM hn
  unfold o_jjd at hK
  split at hK
  · exact lv_ldiv C.1 C.2.1 d hK.1 (h _ _ _ hK.2 H locs M hR hS hL hM hn)
  · exact hK.elim
theorem m_lrem {κ : mX} {cc : ByteArray} {own : String} {dep : Nat} (C : mOk κ cc own dep) {pc : Nat}  {K : mK} (d : decode cc pc = .ok (.lrem, 1)) (h : mAt κ (pc + 1) K) : mAt κ pc (o_jjd (fun x y => x - x / y * y) K) := by
  obtain ⟨⟨p, l, e, R, s⟩, ⟨m, args, below, meth, c⟩, ⟨D, dA, sz, ext, adV⟩, ⟨n0, w0, mc, ms⟩, Q⟩ := κ
  intro ls st S hK H locs M hR hS hL hM hn
  unfold o_jjd at hK
  split at hK
  · exact lv_lrem C.1 C.2.1 d hK.1 (h _ _ _ hK.2 H locs M hR hS hL hM hn)
  · exact hK.elim
theorem m_lcmp {κ : mX} {cc : ByteArray} {own : String} {dep : Nat} (C : mOk κ cc own dep) {pc : Nat}  {K : mK} (d : decode cc pc = .ok (.lcmp, 1)) (h : mAt κ (pc + 1) K) : mAt κ pc (o_lcmp K) := by
  obtain ⟨⟨p, l, e, R, s⟩, ⟨m, args, below, meth, c⟩, ⟨D, dA, sz, ext, adV⟩, ⟨n0, w0, mc, ms⟩, Q⟩ := κ
  intro ls st S hK H locs M hR hS hL hM hn
  unfold o_lcmp at hK
  split at hK
  · exact W.lcmp C.1 C.2.1 d (h _ _ _ hK H locs M hR hS hL hM hn)
  · exact hK.elim
theorem m_i2l {κ : mX} {cc : ByteArray} {own : String} {dep : Nat} (C : mOk κ cc own dep) {pc : Nat}  {K : mK} (d : decode cc pc = .ok (.i2l, 1)) (h : mAt κ (pc + 1) K) : mAt κ pc (o_i2l K) := by
  obtain ⟨⟨p, l, e, R, s⟩, ⟨m, args, below, meth, c⟩, ⟨D, dA, sz, ext, adV⟩, ⟨n0, w0, mc, ms⟩, Q⟩ := κ
  intro ls st S hK H locs M hR hS hL hM hn
  unfold o_i2l at hK
  split at hK
  · exact lv_i2l C.1 C.2.1 d rfl (h _ _ _ hK H locs M hR hS hL hM hn)
  · exact hK.elim
theorem m_l2i {κ : mX} {cc : ByteArray} {own : String} {dep : Nat} (C : mOk κ cc own dep) {pc : Nat}  {K : mK} (d : decode cc pc = .ok (.l2i, 1)) (h : mAt κ (pc + 1) K) : mAt κ pc (o_l2i K) := by
  obtain ⟨⟨p, l, e, R, s⟩, ⟨m, args, below, meth, c⟩, ⟨D, dA, sz, ext, adV⟩, ⟨n0, w0, mc, ms⟩, Q⟩ := κ
  intro ls st S hK H locs M hR hS hL hM hn
  unfold o_l2i at hK
  split at hK
  · exact lv_l2i C.1 C.2.1 d rfl (h _ _ _ hK H locs M hR hS hL hM hn)
  · exact hK.elim
theorem m_dup {κ : mX} {cc : ByteArray} {own : String} {dep : Nat} (C : mOk κ cc own dep) {pc : Nat}  {K : mK} (d : decode cc pc = .ok (.dup, 1)) (h : mAt κ (pc + 1) K) : mAt κ pc (o_dup K) := by
  obtain ⟨⟨p, l, e, R, s⟩, ⟨m, args, below, meth, c⟩, ⟨D, dA, sz, ext, adV⟩, ⟨n0, w0, mc, ms⟩, Q⟩ := κ
  intro ls st S hK H locs M hR hS hL hM hn
  unfold o_dup at hK
  split at hK
  · exact lv_dup C.1 C.2.1 d rfl (h _ _ _ hK H locs M hR hS hL hM hn)
  · exact lv_dup C.1 C.2.1 d rfl (h _ _ _ hK H locs M hR hS hL hM hn)
  · exact hK.elim
theorem m_pop {κ : mX} {cc : ByteArray} {own : String} {dep : Nat} (C : mOk κ cc own dep) {pc : Nat}  {K : mK} (d : decode cc pc = .ok (.pop, 1)) (h : mAt κ (pc + 1) K) : mAt κ pc (o_pop K) := by
  obtain ⟨⟨p, l, e, R, s⟩, ⟨m, args, below, meth, c⟩, ⟨D, dA, sz, ext, adV⟩, ⟨n0, w0, mc, ms⟩, Q⟩ := κ
  intro ls st S hK H locs M hR hS hL hM hn
  unfold o_pop at hK
  split at hK
  · exact lv_pop C.1 C.2.1 d rfl (h _ _ _ hK H locs M hR hS hL hM hn)
  · exact lv_pop C.1 C.2.1 d rfl (h _ _ _ hK H locs M hR hS hL hM hn)
  · exact hK.elim
theorem m_dup2 {κ : mX} {cc : ByteArray} {own : String} {dep : Nat} (C : mOk κ cc own dep) {pc : Nat}  {K : mK} (d : decode cc pc = .ok (.dup2, 1)) (h : mAt κ (pc + 1) K) : mAt κ pc (o_dup2 K) := by
  obtain ⟨⟨p, l, e, R, s⟩, ⟨m, args, below, meth, c⟩, ⟨D, dA, sz, ext, adV⟩, ⟨n0, w0, mc, ms⟩, Q⟩ := κ
  intro ls st S hK H locs M hR hS hL hM hn
  unfold o_dup2 at hK
  split at hK
  · exact lv_dup2_11 C.1 C.2.1 d rfl rfl (h _ _ _ hK H locs M hR hS hL hM hn)
  · exact lv_dup2_11 C.1 C.2.1 d rfl rfl (h _ _ _ hK H locs M hR hS hL hM hn)
  · exact lv_dup2_2 C.1 C.2.1 d rfl (h _ _ _ hK H locs M hR hS hL hM hn)
  · exact hK.elim
abbrev o_if (q : Int32 → Prop) (Kt Kf : mK) : mK := fun ls st S => match st with
  | .int x :: st => (q x → Kt ls st S) ∧ (¬ q x → Kf ls st S)
  | _ => False
abbrev o_ic (q : Int32 → Int32 → Prop) (Kt Kf : mK) : mK := fun ls st S => match st with
  | .int y :: .int x :: st => (q x y → Kt ls st S) ∧ (¬ q x y → Kf ls st S)
  | _ => False
abbrev o_ifnull (Kt Kf : mK) : mK := fun ls st S => match st with
  | .null :: st => Kt ls st S
  | .ref _ :: st => Kf ls st S
  | _ => False
theorem m_if_eq {κ : mX} {cc : ByteArray} {own : String} {dep : Nat} (C : mOk κ cc own dep) {pc : Nat} {off : Int} {tgt : Nat} {Kt Kf : mK} (d : decode cc pc = .ok (.ifCond .eq off, 3)) (ht : (pc : Int) + off = (tgt : Int)) (h1 : mAt κ tgt Kt) (h2 : mAt κ (pc + 3) Kf) : mAt κ pc (o_if (fun x => x = 0) Kt Kf) := by
  obtain ⟨⟨p, l, e, R, s⟩, ⟨m, args, below, meth, c⟩, ⟨D, dA, sz, ext, adV⟩, ⟨n0, w0, mc, ms⟩, Q⟩ := κ
  intro ls st S hK H locs M hR hS hL hM hn
  unfold o_if at hK
  split at hK
  · exact lv_if_eq C.1 C.2.1 d ht (fun z => h1 _ _ _ (hK.1 z) H locs M hR hS hL hM hn) (fun z => h2 _ _ _ (hK.2 z) H locs M hR hS hL hM hn)
  · exact hK.elim
theorem m_icmp_eq {κ : mX} {cc : ByteArray} {own : String} {dep : Nat} (C : mOk κ cc own dep) {pc : Nat} {off : Int} {tgt : Nat} {Kt Kf : mK} (d : decode cc pc = .ok (.if_icmp .eq off, 3)) (ht : (pc : Int) + off = (tgt : Int)) (h1 : mAt κ tgt Kt) (h2 : mAt κ (pc + 3) Kf) : mAt κ pc (o_ic (fun x y => x = y) Kt Kf) := by
  obtain ⟨⟨p, l, e, R, s⟩, ⟨m, args, below, meth, c⟩, ⟨D, dA, sz, ext, adV⟩, ⟨n0, w0, mc, ms⟩, Q⟩ := κ
  intro ls st S hK H locs M hR hS hL hM hn
  unfold o_ic at hK
  split at hK
  · exact lv_icmp_eq C.1 C.2.1 d ht (fun z => h1 _ _ _ (hK.1 z) H locs M hR hS hL hM hn) (fun z => h2 _ _ _ (hK.2 z) H locs M hR hS hL hM hn)
  · exact hK.elim
theorem m_if_ne {κ : mX} {cc : ByteArray} {own : String} {dep : Nat} (C : mOk κ cc own dep) {pc : Nat} {off : Int} {tgt : Nat} {Kt Kf : mK} (d : decode cc pc = .ok (.ifCond .ne off, 3)) (ht : (pc : Int) + off = (tgt : Int)) (h1 : mAt κ tgt Kt) (h2 : mAt κ (pc + 3) Kf) : mAt κ pc (o_if (fun x => x = 0) Kf Kt) := by
  obtain ⟨⟨p, l, e, R, s⟩, ⟨m, args, below, meth, c⟩, ⟨D, dA, sz, ext, adV⟩, ⟨n0, w0, mc, ms⟩, Q⟩ := κ
  intro ls st S hK H locs M hR hS hL hM hn
  unfold o_if at hK
  split at hK
  · exact lv_if_ne C.1 C.2.1 d ht (fun z => h1 _ _ _ (hK.2 z) H locs M hR hS hL hM hn) (fun z => h2 _ _ _ (hK.1 z) H locs M hR hS hL hM hn)
  · exact hK.elim
theorem m_icmp_ne {κ : mX} {cc : ByteArray} {own : String} {dep : Nat} (C : mOk κ cc own dep) {pc : Nat} {off : Int} {tgt : Nat} {Kt Kf : mK} (d : decode cc pc = .ok (.if_icmp .ne off, 3)) (ht : (pc : Int) + off = (tgt : Int)) (h1 : mAt κ tgt Kt) (h2 : mAt κ (pc + 3) Kf) : mAt κ pc (o_ic (fun x y => x = y) Kf Kt) := by
  obtain ⟨⟨p, l, e, R, s⟩, ⟨m, args, below, meth, c⟩, ⟨D, dA, sz, ext, adV⟩, ⟨n0, w0, mc, ms⟩, Q⟩ := κ
  intro ls st S hK H locs M hR hS hL hM hn
  unfold o_ic at hK
  split at hK
  · exact lv_icmp_ne C.1 C.2.1 d ht (fun z => h1 _ _ _ (hK.2 z) H locs M hR hS hL hM hn) (fun z => h2 _ _ _ (hK.1 z) H locs M hR hS hL hM hn)
  · exact hK.elim
theorem m_if_lt {κ : mX} {cc : ByteArray} {own : String} {dep : Nat} (C : mOk κ cc own dep) {pc : Nat} {off : Int} {tgt : Nat} {Kt Kf : mK} (d : decode cc pc = .ok (.ifCond .lt off, 3)) (ht : (pc : Int) + off = (tgt : Int)) (h1 : mAt κ tgt Kt) (h2 : mAt κ (pc + 3) Kf) : mAt κ pc (o_if (fun x => x < 0) Kt Kf) := by
  obtain ⟨⟨p, l, e, R, s⟩, ⟨m, args, below, meth, c⟩, ⟨D, dA, sz, ext, adV⟩, ⟨n0, w0, mc, ms⟩, Q⟩ := κ
  intro ls st S hK H locs M hR hS hL hM hn
  unfold o_if at hK
  split at hK
  · exact lv_if_lt C.1 C.2.1 d ht (fun z => h1 _ _ _ (hK.1 z) H locs M hR hS hL hM hn) (fun z => h2 _ _ _ (hK.2 z) H locs M hR hS hL hM hn)
  · exact hK.elim
theorem m_icmp_lt {κ : mX} {cc : ByteArray} {own : String} {dep : Nat} (C : mOk κ cc own dep) {pc : Nat} {off : Int} {tgt : Nat} {Kt Kf : mK} (d : decode cc pc = .ok (.if_icmp .lt off, 3)) (ht : (pc : Int) + off = (tgt : Int)) (h1 : mAt κ tgt Kt) (h2 : mAt κ (pc + 3) Kf) : mAt κ pc (o_ic (fun x y => x < y) Kt Kf) := by
  obtain ⟨⟨p, l, e, R, s⟩, ⟨m, args, below, meth, c⟩, ⟨D, dA, sz, ext, adV⟩, ⟨n0, w0, mc, ms⟩, Q⟩ := κ
  intro ls st S hK H locs M hR hS hL hM hn
  unfold o_ic at hK
  split at hK
  · exact lv_icmp_lt C.1 C.2.1 d ht (fun z => h1 _ _ _ (hK.1 z) H locs M hR hS hL hM hn) (fun z => h2 _ _ _ (hK.2 z) H locs M hR hS hL hM hn)
  · exact hK.elim
theorem m_if_ge {κ : mX} {cc : ByteArray} {own : String} {dep : Nat} (C : mOk κ cc own dep) {pc : Nat} {off : Int} {tgt : Nat} {Kt Kf : mK} (d : decode cc pc = .ok (.ifCond .ge off, 3)) (ht : (pc : Int) + off = (tgt : Int)) (h1 : mAt κ tgt Kt) (h2 : mAt κ (pc + 3) Kf) : mAt κ pc (o_if (fun x => x < 0) Kf Kt) := by
  obtain ⟨⟨p, l, e, R, s⟩, ⟨m, args, below, meth, c⟩, ⟨D, dA, sz, ext, adV⟩, ⟨n0, w0, mc, ms⟩, Q⟩ := κ
  intro ls st S hK H locs M hR hS hL hM hn
  unfold o_if at hK
  split at hK
  · exact lv_if_ge C.1 C.2.1 d ht (fun z => h1 _ _ _ (hK.2 (Int32.not_lt.mpr z)) H locs M hR hS hL hM hn) (fun z => h2 _ _ _ (hK.1 (Int32.not_le.mp z)) H locs M hR hS hL hM hn)
  · exact hK.elim
theorem m_icmp_ge {κ : mX} {cc : ByteArray} {own : String} {dep : Nat} (C : mOk κ cc own dep) {pc : Nat} {off : Int} {tgt : Nat} {Kt Kf : mK} (d : decode cc pc = .ok (.if_icmp .ge off, 3)) (ht : (pc : Int) + off = (tgt : Int)) (h1 : mAt κ tgt Kt) (h2 : mAt κ (pc + 3) Kf) : mAt κ pc (o_ic (fun x y => x < y) Kf Kt) := by
  obtain ⟨⟨p, l, e, R, s⟩, ⟨m, args, below, meth, c⟩, ⟨D, dA, sz, ext, adV⟩, ⟨n0, w0, mc, ms⟩, Q⟩ := κ
  intro ls st S hK H locs M hR hS hL hM hn
  unfold o_ic at hK
  split at hK
  · exact lv_icmp_ge C.1 C.2.1 d ht (fun z => h1 _ _ _ (hK.2 (Int32.not_lt.mpr z)) H locs M hR hS hL hM hn) (fun z => h2 _ _ _ (hK.1 (Int32.not_le.mp z)) H locs M hR hS hL hM hn)
  · exact hK.elim
theorem m_if_gt {κ : mX} {cc : ByteArray} {own : String} {dep : Nat} (C : mOk κ cc own dep) {pc : Nat} {off : Int} {tgt : Nat} {Kt Kf : mK} (d : decode cc pc = .ok (.ifCond .gt off, 3)) (ht : (pc : Int) + off = (tgt : Int)) (h1 : mAt κ tgt Kt) (h2 : mAt κ (pc + 3) Kf) : mAt κ pc (o_if (fun x => 0 < x) Kt Kf) := by
  obtain ⟨⟨p, l, e, R, s⟩, ⟨m, args, below, meth, c⟩, ⟨D, dA, sz, ext, adV⟩, ⟨n0, w0, mc, ms⟩, Q⟩ := κ
  intro ls st S hK H locs M hR hS hL hM hn
  unfold o_if at hK
  split at hK
  · exact lv_if_gt C.1 C.2.1 d ht (fun z => h1 _ _ _ (hK.1 z) H locs M hR hS hL hM hn) (fun z => h2 _ _ _ (hK.2 z) H locs M hR hS hL hM hn)
  · exact hK.elim
theorem m_icmp_gt {κ : mX} {cc : ByteArray} {own : String} {dep : Nat} (C : mOk κ cc own dep) {pc : Nat} {off : Int} {tgt : Nat} {Kt Kf : mK} (d : decode cc pc = .ok (.if_icmp .gt off, 3)) (ht : (pc : Int) + off = (tgt : Int)) (h1 : mAt κ tgt Kt) (h2 : mAt κ (pc + 3) Kf) : mAt κ pc (o_ic (fun x y => y < x) Kt Kf) := by
  obtain ⟨⟨p, l, e, R, s⟩, ⟨m, args, below, meth, c⟩, ⟨D, dA, sz, ext, adV⟩, ⟨n0, w0, mc, ms⟩, Q⟩ := κ
  intro ls st S hK H locs M hR hS hL hM hn
  unfold o_ic at hK
  split at hK
  · exact lv_icmp_gt C.1 C.2.1 d ht (fun z => h1 _ _ _ (hK.1 z) H locs M hR hS hL hM hn) (fun z => h2 _ _ _ (hK.2 z) H locs M hR hS hL hM hn)
  · exact hK.elim
theorem m_if_le {κ : mX} {cc : ByteArray} {own : String} {dep : Nat} (C : mOk κ cc own dep) {pc : Nat} {off : Int} {tgt : Nat} {Kt Kf : mK} (d : decode cc pc = .ok (.ifCond .le off, 3)) (ht : (pc : Int) + off = (tgt : Int)) (h1 : mAt κ tgt Kt) (h2 : mAt κ (pc + 3) Kf) : mAt κ pc (o_if (fun x => 0 < x) Kf Kt) := by
  obtain ⟨⟨p, l, e, R, s⟩, ⟨m, args, below, meth, c⟩, ⟨D, dA, sz, ext, adV⟩, ⟨n0, w0, mc, ms⟩, Q⟩ := κ
  intro ls st S hK H locs M hR hS hL hM hn
  unfold o_if at hK
  split at hK
  · exact lv_if_le C.1 C.2.1 d ht (fun z => h1 _ _ _ (hK.2 (Int32.not_lt.mpr z)) H locs M hR hS hL hM hn) (fun z => h2 _ _ _ (hK.1 (Int32.not_le.mp z)) H locs M hR hS hL hM hn)
  · exact hK.elim
theorem m_icmp_le {κ : mX} {cc : ByteArray} {own : String} {dep : Nat} (C : mOk κ cc own dep) {pc : Nat} {off : Int} {tgt : Nat} {Kt Kf : mK} (d : decode cc pc = .ok (.if_icmp .le off, 3)) (ht : (pc : Int) + off = (tgt : Int)) (h1 : mAt κ tgt Kt) (h2 : mAt κ (pc + 3) Kf) : mAt κ pc (o_ic (fun x y => y < x) Kf Kt) := by
  obtain ⟨⟨p, l, e, R, s⟩, ⟨m, args, below, meth, c⟩, ⟨D, dA, sz, ext, adV⟩, ⟨n0, w0, mc, ms⟩, Q⟩ := κ
  intro ls st S hK H locs M hR hS hL hM hn
  unfold o_ic at hK
  split at hK
  · exact lv_icmp_le C.1 C.2.1 d ht (fun z => h1 _ _ _ (hK.2 (Int32.not_lt.mpr z)) H locs M hR hS hL hM hn) (fun z => h2 _ _ _ (hK.1 (Int32.not_le.mp z)) H locs M hR hS hL hM hn)
  · exact hK.elim
theorem m_goto {κ : mX} {cc : ByteArray} {own : String} {dep : Nat} (C : mOk κ cc own dep) {pc : Nat} {off : Int} {tgt : Nat} {K : mK} (d : decode cc pc = .ok (.goto off, 3)) (ht : (pc : Int) + off = (tgt : Int)) (h : mAt κ tgt K) : mAt κ pc K := by
  obtain ⟨⟨p, l, e, R, s⟩, ⟨m, args, below, meth, c⟩, ⟨D, dA, sz, ext, adV⟩, ⟨n0, w0, mc, ms⟩, Q⟩ := κ
  intro ls st S hK H locs M hR hS hL hM hn
  exact lv_goto C.1 C.2.1 d ht (h _ _ _ hK H locs M hR hS hL hM hn)
theorem m_ifnull {κ : mX} {cc : ByteArray} {own : String} {dep : Nat} (C : mOk κ cc own dep) {pc : Nat} {off : Int} {tgt : Nat} {Kt Kf : mK} (d : decode cc pc = .ok (.ifnull off, 3)) (ht : (pc : Int) + off = (tgt : Int)) (h1 : mAt κ tgt Kt) (h2 : mAt κ (pc + 3) Kf) : mAt κ pc (o_ifnull Kt Kf) := by
  obtain ⟨⟨p, l, e, R, s⟩, ⟨m, args, below, meth, c⟩, ⟨D, dA, sz, ext, adV⟩, ⟨n0, w0, mc, ms⟩, Q⟩ := κ
  intro ls st S hK H locs M hR hS hL hM hn
  unfold o_ifnull at hK
  split at hK
  · exact lv_ifnullN C.1 C.2.1 d ht (h1 _ _ _ hK H locs M hR hS hL hM hn)
  · exact lv_ifnull C.1 C.2.1 d (h2 _ _ _ hK H locs M hR hS hL hM hn)
  · exact hK.elim
