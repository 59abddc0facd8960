theorem gd_of {b : Bool} {A : Prop} (h : gd b A) : b = true ∧ A := by
  cases b with
  | true => exact ⟨rfl, h⟩
  | false => exact h.elim
theorem beq_of {a b : Nat} (h : Nat.beq a b = true) : a = b := Nat.eq_of_beq_eq_true h
def mCls (ci : Nat) (Cn : String) (T : u_T) : Prop := vwCl[ci]? = some (Cn, T, mN ci) ∧ (∀ w ∈ u_ws Cn T (mN ci), w ∈ mU) ∧ (∀ k, k < mN ci → parseFieldDescriptor (T k).2.2.1 = some (mTy ci k)) ∧ (∀ a, a < mN ci → ∀ b, b < mN ci → a ≠ b → (T a).2.1 ≠ (T b).2.1) ∧ ci < 100
theorem sH_lt {D : va_G} {dA : Nat → ClassId} {sz : Nat} {ext : Nat → Nat} {S : mS} {H : Heap} (hR : mRep D dA sz ext S H) {a t : Nat} (h : (sH S a).1 = t) (ht : t ≠ 999) : a < sN S ∧ mAd sz ext a = sz + a := by
  have h1 : a < sN S := by
    rcases Nat.lt_or_ge a (sN S) with q | q
    · exact q
    · rw [hR.2.2.2.1 a q] at h
      exact absurd h.symm ht
  refine ⟨h1, ?_⟩
  unfold mAd
  rw [if_pos (Nat.lt_of_lt_of_le h1 hR.2.2.2.2)]
theorem cell_o {ad : Nat → Nat} {dA : Nat → ClassId} {S : mS} {a ci : Nat} (h : (sH S a).1 = ci) (hc : ci < 100) : mCell ad dA S a = .inr (ci, fls ad ci S a) := by
  unfold mCell
  rw [h, if_pos hc]
theorem cell_a {ad : Nat → Nat} {dA : Nat → ClassId} {S : mS} {a t : Nat} (h : (sH S a).1 = 100 + t) : mCell ad dA S a = .inl (dA t, (sH S a).2, acell ad S a t) := by
  unfold mCell
  rw [h, if_neg (by omega), show 100 + t - 100 = t by omega]
theorem fls_at {ad : Nat → Nat} {S : mS} {a ci j : Nat} (hj : j < mN ci) : (fls ad ci S a)[j]? = some (fvl ad (mTy ci j) S a j) := by
  simp [fls, hj]
theorem fls_len {ad : Nat → Nat} {S : mS} {a ci : Nat} : (fls ad ci S a).length = mN ci := by simp [fls]
/-- what stays where one cell's contents change -/
def sameBut (S T : mS) (a : Nat) : Prop := T.1 = S.1 ∧ T.2.1 = S.2.1 ∧ ∀ k, k ≠ a → sI T k = sI S k ∧ sJ T k = sJ S k ∧ sP T k = sP S k
theorem sameBut.cell {S T : mS} {a : Nat} (h : sameBut S T a) {ad : Nat → Nat} {dA : Nat → ClassId} (k : Nat) (hk : k ≠ a) : mCell ad dA T k = mCell ad dA S k := by
  obtain ⟨h1, h2, h3⟩ := h
  obtain ⟨a1, a2, a3⟩ := h3 k hk
  have e : sH T k = sH S k := by show T.2.1 k = S.2.1 k; rw [h2]
  have f1 : ∀ (ci : Nat), fls ad ci T k = fls ad ci S k := fun ci => by
    unfold fls
    congr 1
    funext j
    unfold fvl
    rw [a1, a2, a3]
  have f2 : ∀ t, acell ad T k t = acell ad S k t := fun t => by unfold acell; rw [a1, a2, a3]
  unfold mCell
  rw [e, f1, f2]
theorem sameBut.rep {S T : mS} {a : Nat} (h : sameBut S T a) {D : va_G} {dA : Nat → ClassId} {sz : Nat} {ext : Nat → Nat} {H H1 : Heap} {e : va_E} (hR : mRep D dA sz ext S H) (hP : va_P D vwCl ((mWs (mAd sz ext) dA sz S).set a (sz + a, e)) H1) (hD : va_D (fun q => sz ≤ q) ((mWs (mAd sz ext) dA sz S).set a (sz + a, e))) (he : mCell (mAd sz ext) dA T a = e) (hz : H1.size = H.size) : mRep D dA sz ext T H1 := by
  have hn : sN T = sN S := by show T.1.1 = S.1.1; rw [h.1]
  have hw := mWs_set (ad := mAd sz ext) (dA := dA) (sz := sz) hn (fun k hk => h.cell k hk) he
  rw [hw] at hP hD
  refine ⟨hP, hD, by rw [hz, hn]; exact hR.2.2.1, fun k hk => ?_, by rw [hn]; exact hR.2.2.2.2⟩
  show T.2.1 k = _
  rw [h.2.1]
  exact hR.2.2.2.1 k (by rw [← hn]; exact hk)
theorem up1_ne {α : Type} {f : Nat → α} {j i : Nat} {v : α} (h : i ≠ j) : up1 f j v i = f i := if_neg h
theorem up1_eq {α : Type} {f : Nat → α} {j : Nat} {v : α} : up1 f j v j = v := if_pos rfl
theorem same_Ir (S : mS) (a : Nat) (g : Nat → Int32) : sameBut S (setIr S a g) a := ⟨rfl, rfl, fun k hk => ⟨up1_ne hk, rfl, rfl⟩⟩
theorem same_Jr (S : mS) (a : Nat) (g : Nat → Int64) : sameBut S (setJr S a g) a := ⟨rfl, rfl, fun k hk => ⟨rfl, up1_ne hk, rfl⟩⟩
theorem same_Pr (S : mS) (a : Nat) (g : Nat → Option Nat) : sameBut S (setPr S a g) a := ⟨rfl, rfl, fun k hk => ⟨rfl, rfl, up1_ne hk⟩⟩
theorem setIr_at (S : mS) (a : Nat) (g : Nat → Int32) : sI (setIr S a g) a = g := up1_eq
theorem setJr_at (S : mS) (a : Nat) (g : Nat → Int64) : sJ (setJr S a g) a = g := up1_eq
theorem setPr_at (S : mS) (a : Nat) (g : Nat → Option Nat) : sP (setPr S a g) a = g := up1_eq
def ikind (ty : FieldType) : Bool := match ty with
  | .int => true | .boolean => true | .byte => true | .char => true | .short => true | _ => false
def pkind (ty : FieldType) : Bool := match ty with
  | .object _ => true | .array _ => true | _ => false
theorem fvl_i {ad : Nat → Nat} {ty : FieldType} {S : mS} {a j : Nat} (h : ikind ty = true) : fvl ad ty S a j = .int (sI S a j) := by cases ty <;> first | rfl | cases h
theorem fvl_l {ad : Nat → Nat} {ty : FieldType} {S : mS} {a j : Nat} (h : ty = .long) : fvl ad ty S a j = .long (sJ S a j) := by subst h; rfl
theorem fvl_p {ad : Nat → Nat} {ty : FieldType} {S : mS} {a j : Nat} (h : pkind ty = true) : fvl ad ty S a j = va_rf ((sP S a j).map ad) := by cases ty <;> first | rfl | cases h
/-- a field list behind a store at place j -/
theorem fls_set {ad : Nat → Nat} {S T : mS} {a ci j : Nat} {v : Value} (hj : j < mN ci) (hv : fvl ad (mTy ci j) T a j = v) (ho : ∀ i, i ≠ j → fvl ad (mTy ci i) T a i = fvl ad (mTy ci i) S a i) : fls ad ci T a = (fls ad ci S a).set j v := by
  apply List.ext_getElem?
  intro i
  by_cases hi : i < mN ci
  · rw [fls_at hi]
    by_cases e : j = i
    · subst e
      rw [List.getElem?_set_self (by rw [fls_len]; exact hj), hv]
    · rw [List.getElem?_set_ne e, fls_at hi, ho i (Ne.symm e)]
  · rw [List.getElem?_eq_none (by rw [fls_len]; omega), List.getElem?_eq_none (by rw [List.length_set, fls_len]; omega)]
theorem fvl_I {ad : Nat → Nat} {ty : FieldType} {S : mS} {a j i : Nat} {v : Int32} (h : i ≠ j) : fvl ad ty (setI S a j v) a i = fvl ad ty S a i := by
  have e : sI (setI S a j v) a i = sI S a i := by unfold setI; rw [setIr_at, up1_ne h]
  unfold fvl; cases ty <;> first | rfl | (simp only [e]; done)
theorem fvl_J {ad : Nat → Nat} {ty : FieldType} {S : mS} {a j i : Nat} {v : Int64} (h : i ≠ j) : fvl ad ty (setJ S a j v) a i = fvl ad ty S a i := by
  have e : sJ (setJ S a j v) a i = sJ S a i := by unfold setJ; rw [setJr_at, up1_ne h]
  unfold fvl; cases ty <;> first | rfl | (simp only [e]; done)
theorem fvl_P {ad : Nat → Nat} {ty : FieldType} {S : mS} {a j i : Nat} {v : Option Nat} (h : i ≠ j) : fvl ad ty (setP S a j v) a i = fvl ad ty S a i := by
  have e : sP (setP S a j v) a i = sP S a i := by unfold setP; rw [setPr_at, up1_ne h]
  unfold fvl; cases ty <;> first | rfl | (simp only [e]; done)
def rf (r : Option Nat) : Value := match r with
  | some a => .ref a
  | none => .null
theorem cv_rf (ad : Nat → Nat) (r : Option Nat) : cv ad (rf r) = va_rf (r.map ad) := by cases r <;> rfl
def mMeth (κ : mX) : Method := match κ with
  | (_, (_, _, _, meth, _), _, _, _) => meth
section WAP
variable {p : Program} {l : Launch} {e : Env} {R : Room} {s : State} {m : MethodId} {args : Array Value} {below : List Frame} {meth : Method} {c : Code} {H : Heap} {locs : List Loc} {cells slots : Nat} {Q : State → Prop}
variable {cc : ByteArray} {pc : Nat} {ls : Array Slot} {rest : List Value} {D : va_G} {A : Nat → Prop} {a : Nat} {tys : List (ClassId × FieldType)} {ws : va_W} {H0 : Heap}
theorem wa_put (hexec : p.tables.exec = Jvm.exec) (hb : c.code = cc) {own Cn : String} {T : u_T} {ci index : Nat} (hts : ∀ w ∈ mU, w.before args s = true) (hm : mCls ci Cn T) (hown : s.vm.findClass own = some m.cls) (hK : va_K D vwCl tys s) (hP : va_P D vwCl ws H) (hD : va_D A ws) (hS0 : va_S A H0 H locs) (q0 : Nat) {fs : List Value} (he : ws[q0]? = some (a, .inr (ci, fs))) (k : Nat) (hk : k < mN ci) (hlink : (Cond.fieldLink own index (T k).1 (T k).2.1 (T k).2.2.1).before args s = true)
    (hfin : (T k).2.2.2 = false ∨ ((T k).2.2.2 = true ∧ meth.name = "<init>" ∧ (T k).1 = own)) {v : Value} (hn : narrow (mTy ci k) v = v) (hfit : fits (mTy ci k) v = true) (hl : k < fs.length)
    (hdg : decode cc pc = .ok (.putfield index, 3)) (kk : ∀ (H1 : Heap) (locs1 : List Loc), va_P D vwCl (ws.set q0 (a, .inr (ci, fs.set k v))) H1 → va_D A (ws.set q0 (a, .inr (ci, fs.set k v))) → va_S A H0 H1 locs1 → H1.size = H.size → W p l e R s m args below meth c H1 locs1 cells slots Q (F0 m (pc + 3) ls rest)) : W p l e R s m args below meth c H locs cells slots Q (F0 m pc ls (v :: .ref a :: rest)) := by
  obtain ⟨hc, hin, hty, hnm, -⟩ := hm
  have hap := va_apart (own := own) hts hin (mTy ci) hty hnm hK hc
  obtain ⟨r, h1, cell, q1, q2, q3, q4⟩ := hP q0 _ he
  have hr : r = (Cn, T, mN ci) := Option.some.inj (h1.symm.trans hc)
  subst hr
  obtain ⟨hS, hfc, kC, hkC, hkind⟩ := hK.1 ci _ hc
  obtain ⟨cf, kf, fi, f, hi, hsl⟩ := hS k hk
  have hlay := hts _ (hin _ (u_in_lay hk))
  unfold u_lay at hlay
  have hst := (u_facts hfc hkC (u_lays hts hin hk) hi).1
  rcases hfin with hfin | ⟨hfin, hin2, hdecl⟩
  · rw [if_neg (by rw [hfin]; decide)] at hlay
    have h6 := u_store hfc hkC hkind hlay hi (hty k hk) hn hfit
    refine W.putK hexec hb (f := f) ⟨hown, hlink, ⟨_, _, _, hi⟩, hst⟩ (by rw [q2]; exact h6) q1 q3 (by rw [hsl]; exact k2_hasslot (q4 k hk)) rfl rfl hdg fun H' e1 e2 e3 => ?_
    rw [hsl] at e1 ⊢
    exact kk H' _ (hP.set hD he ⟨_, hc, t_OB.to (V := updV (vp_V fs) k v) ⟨_, e1, q2, q3, t_set q4 hap hk v⟩ (fun j _ => vp_updV_set hl v j)⟩ e3) (hD.set he) (hS0.put e2 e3 (hD.2 q0 _ he)) e2
  · rw [if_pos hfin] at hlay
    have hcf : m.cls = cf := by
      obtain ⟨_, _, c', _, _, _, -, -, hf', -, -, -, hown2, -⟩ := Cond.laysFinal_spec hlay
      have e1 : c' = cf := by have := hi.symm.trans hf'; simp at this; exact this.1.symm
      rw [hdecl] at hown2
      rw [← e1]; exact Option.some.inj (hown.symm.trans hown2)
    have h6 := u_fits hfc hkC hkind (Or.inr hlay) hi (hty k hk) hn hfit
    refine W.putFinK hexec hb hown hlink hi hst hcf hin2 (by rw [q2]; exact h6) q1 q3 (by rw [hsl]; exact k2_hasslot (q4 k hk)) rfl rfl hdg fun H' e1 e2 e3 => ?_
    rw [hsl] at e1 ⊢
    exact kk H' _ (hP.set hD he ⟨_, hc, t_OB.to (V := updV (vp_V fs) k v) ⟨_, e1, q2, q3, t_set q4 hap hk v⟩ (fun j _ => vp_updV_set hl v j)⟩ e3) (hD.set he) (hS0.put e2 e3 (hD.2 q0 _ he)) e2
end WAP

abbrev o_getI (ci j : Nat) (K : mK) : mK := fun ls st S => match st with
  | .ref a :: st => gd (Nat.beq (sH S a).1 ci) (K ls (.int (sI S a j) :: st) S)
  | _ => False
theorem m_getI {κ : mX} {cc : ByteArray} {own : String} {dep : Nat} (C : mOk κ cc own dep) {pc : Nat} {ci j index : Nat} {Cn : String} {T : u_T} {K : mK} (d : decode cc pc = .ok (.getfield index, 3)) (hc : mCls ci Cn T) (hj : j < mN ci) (hw : Cond.fieldLink own index (T j).1 (T j).2.1 (T j).2.2.1 ∈ mU) (hk : ikind (mTy ci j) = true) (h : mAt κ (pc + 3) K) : mAt κ pc (o_getI ci j K) := by
  obtain ⟨⟨p, l, e, R, s⟩, ⟨m, args, below, meth, c⟩, ⟨D, dA, sz, ext, adV⟩, ⟨n0, w0, mc, ms⟩, Q⟩ := κ
  intro ls st S hK H locs M hR hS hL hM hn
  unfold o_getI at hK
  split at hK
  · rename_i a st
    obtain ⟨hb, hK⟩ := gd_of hK
    have hb := beq_of hb
    obtain ⟨hl, had⟩ := sH_lt hR hb (by have := hc.2.2.2.2; omega)
    have he := mWs_at (ad := mAd sz ext) (dA := dA) (sz := sz) hl
    rw [cell_o hb hc.2.2.2.2] at he
    have hv := fls_at (ad := mAd sz ext) (S := S) (a := a) hj
    rw [fvl_i hk] at hv
    show W p l e R s m args below meth c H locs _ _ Q (F0 m pc M (Value.ref (mAd sz ext a) :: st.map (cv (mAd sz ext))))
    rw [had]
    exact va_get (D := D) (cl := vwCl) (ws := mWs (mAd sz ext) dA sz S) (ref := (T j).1) C.1 C.2.1 C.2.2.2.1 hc.2.1 C.2.2.1 C.2.2.2.2.1 hR.1 a he hc.1 j hj (C.2.2.2.1 _ hw) (fun _ q => q) hv d (h _ _ _ hK H locs M hR hS hL hM hn)
  · exact hK.elim
abbrev o_getJ (ci j : Nat) (K : mK) : mK := fun ls st S => match st with
  | .ref a :: st => gd (Nat.beq (sH S a).1 ci) (K ls (.long (sJ S a j) :: st) S)
  | _ => False
theorem m_getJ {κ : mX} {cc : ByteArray} {own : String} {dep : Nat} (C : mOk κ cc own dep) {pc : Nat} {ci j index : Nat} {Cn : String} {T : u_T} {K : mK} (d : decode cc pc = .ok (.getfield index, 3)) (hc : mCls ci Cn T) (hj : j < mN ci) (hw : Cond.fieldLink own index (T j).1 (T j).2.1 (T j).2.2.1 ∈ mU) (hk : mTy ci j = .long) (h : mAt κ (pc + 3) K) : mAt κ pc (o_getJ ci j K) := by
  obtain ⟨⟨p, l, e, R, s⟩, ⟨m, args, below, meth, c⟩, ⟨D, dA, sz, ext, adV⟩, ⟨n0, w0, mc, ms⟩, Q⟩ := κ
  intro ls st S hK H locs M hR hS hL hM hn
  unfold o_getJ at hK
  split at hK
  · rename_i a st
    obtain ⟨hb, hK⟩ := gd_of hK
    have hb := beq_of hb
    obtain ⟨hl, had⟩ := sH_lt hR hb (by have := hc.2.2.2.2; omega)
    have he := mWs_at (ad := mAd sz ext) (dA := dA) (sz := sz) hl
    rw [cell_o hb hc.2.2.2.2] at he
    have hv := fls_at (ad := mAd sz ext) (S := S) (a := a) hj
    rw [fvl_l hk] at hv
    show W p l e R s m args below meth c H locs _ _ Q (F0 m pc M (Value.ref (mAd sz ext a) :: st.map (cv (mAd sz ext))))
    rw [had]
    exact va_get (D := D) (cl := vwCl) (ws := mWs (mAd sz ext) dA sz S) (ref := (T j).1) C.1 C.2.1 C.2.2.2.1 hc.2.1 C.2.2.1 C.2.2.2.2.1 hR.1 a he hc.1 j hj (C.2.2.2.1 _ hw) (fun _ q => q) hv d (h _ _ _ hK H locs M hR hS hL hM hn)
  · exact hK.elim
abbrev o_getP (ci j : Nat) (K : mK) : mK := fun ls st S => match st with
  | .ref a :: st => gd (Nat.beq (sH S a).1 ci) (K ls (rf (sP S a j) :: st) S)
  | _ => False
theorem m_getP {κ : mX} {cc : ByteArray} {own : String} {dep : Nat} (C : mOk κ cc own dep) {pc : Nat} {ci j index : Nat} {Cn : String} {T : u_T} {K : mK} (d : decode cc pc = .ok (.getfield index, 3)) (hc : mCls ci Cn T) (hj : j < mN ci) (hw : Cond.fieldLink own index (T j).1 (T j).2.1 (T j).2.2.1 ∈ mU) (hk : pkind (mTy ci j) = true) (h : mAt κ (pc + 3) K) : mAt κ pc (o_getP ci j K) := by
  obtain ⟨⟨p, l, e, R, s⟩, ⟨m, args, below, meth, c⟩, ⟨D, dA, sz, ext, adV⟩, ⟨n0, w0, mc, ms⟩, Q⟩ := κ
  intro ls st S hK H locs M hR hS hL hM hn
  unfold o_getP at hK
  split at hK
  · rename_i a st
    obtain ⟨hb, hK⟩ := gd_of hK
    have hb := beq_of hb
    obtain ⟨hl, had⟩ := sH_lt hR hb (by have := hc.2.2.2.2; omega)
    have he := mWs_at (ad := mAd sz ext) (dA := dA) (sz := sz) hl
    rw [cell_o hb hc.2.2.2.2] at he
    have hv := fls_at (ad := mAd sz ext) (S := S) (a := a) hj
    rw [fvl_p hk] at hv
    rw [← cv_rf] at hv
    show W p l e R s m args below meth c H locs _ _ Q (F0 m pc M (Value.ref (mAd sz ext a) :: st.map (cv (mAd sz ext))))
    rw [had]
    exact va_get (D := D) (cl := vwCl) (ws := mWs (mAd sz ext) dA sz S) (ref := (T j).1) C.1 C.2.1 C.2.2.2.1 hc.2.1 C.2.2.1 C.2.2.2.2.1 hR.1 a he hc.1 j hj (C.2.2.2.1 _ hw) (fun _ q => q) hv d (h _ _ _ hK H locs M hR hS hL hM hn)
  · exact hK.elim
abbrev o_putI (ci j : Nat) (K : mK) : mK := fun ls st S => match st with
  | .int v :: .ref a :: st => gd (Nat.beq (sH S a).1 ci) (K ls st (setI S a j v))
  | _ => False
theorem m_putI {κ : mX} {cc : ByteArray} {own : String} {dep : Nat} (C : mOk κ cc own dep) {pc : Nat} {ci j index : Nat} {Cn : String} {T : u_T} {K : mK} (d : decode cc pc = .ok (.putfield index, 3)) (hc : mCls ci Cn T) (hj : j < mN ci) (hw : Cond.fieldLink own index (T j).1 (T j).2.1 (T j).2.2.1 ∈ mU) (hk : mTy ci j = .int) (hf : (T j).2.2.2 = false) (h : mAt κ (pc + 3) K) : mAt κ pc (o_putI ci j K) := by
  obtain ⟨⟨p, l, e, R, s⟩, ⟨m, args, below, meth, c⟩, ⟨D, dA, sz, ext, adV⟩, ⟨n0, w0, mc, ms⟩, Q⟩ := κ
  intro ls st S hK H locs M hR hS hL hM hn
  unfold o_putI at hK
  split at hK
  · rename_i v a st
    obtain ⟨hb, hK⟩ := gd_of hK
    have hb := beq_of hb
    obtain ⟨hl, had⟩ := sH_lt hR hb (by have := hc.2.2.2.2; omega)
    have he := mWs_at (ad := mAd sz ext) (dA := dA) (sz := sz) hl
    rw [cell_o hb hc.2.2.2.2] at he
    have hsz : ∀ H1 : Heap, va_P D vwCl ((mWs (mAd sz ext) dA sz S).set a (sz + a, .inr (ci, (fls (mAd sz ext) ci S a).set j (.int v)))) H1 → mCell (mAd sz ext) dA (setI S a j v) a = .inr (ci, (fls (mAd sz ext) ci S a).set j (.int v)) := fun H1 _ => by
      have e : fls (mAd sz ext) ci (setI S a j v) a = (fls (mAd sz ext) ci S a).set j (.int v) := fls_set hj (by rw [fvl_i (by rw [hk]; rfl)]; unfold setI; rw [setIr_at, up1_eq]) (fun i hi => fvl_I hi)
      rw [← e]
      exact cell_o (S := setI S a j v) hb hc.2.2.2.2
    show W p l e R s m args below meth c H locs _ _ Q (F0 m pc M (Value.int v :: Value.ref (mAd sz ext a) :: st.map (cv (mAd sz ext))))
    rw [had]
    exact wa_put (ws := mWs (mAd sz ext) dA sz S) C.1 C.2.1 C.2.2.2.1 hc C.2.2.1 C.2.2.2.2.1 hR.1 hR.2.1 hS a he j hj (C.2.2.2.1 _ hw) (Or.inl hf) (by rw [hk]; rfl) (by rw [hk]; rfl) (by rw [fls_len]; exact hj) d (fun H1 locs1 hP hD hS1 hz => h _ _ _ hK H1 locs1 M ((same_Ir S a _).rep hR hP hD (hsz H1 hP) hz) hS1 hL hM hn)
  · exact hK.elim
theorem m_putIF {κ : mX} {cc : ByteArray} {own : String} {dep : Nat} (C : mOk κ cc own dep) {pc : Nat} {ci j index : Nat} {Cn : String} {T : u_T} {K : mK} (d : decode cc pc = .ok (.putfield index, 3)) (hc : mCls ci Cn T) (hj : j < mN ci) (hw : Cond.fieldLink own index (T j).1 (T j).2.1 (T j).2.2.1 ∈ mU) (hk : mTy ci j = .int) (hf : (T j).2.2.2 = true ∧ (mMeth κ).name = "<init>" ∧ (T j).1 = own) (h : mAt κ (pc + 3) K) : mAt κ pc (o_putI ci j K) := by
  obtain ⟨⟨p, l, e, R, s⟩, ⟨m, args, below, meth, c⟩, ⟨D, dA, sz, ext, adV⟩, ⟨n0, w0, mc, ms⟩, Q⟩ := κ
  intro ls st S hK H locs M hR hS hL hM hn
  unfold o_putI at hK
  split at hK
  · rename_i v a st
    obtain ⟨hb, hK⟩ := gd_of hK
    have hb := beq_of hb
    obtain ⟨hl, had⟩ := sH_lt hR hb (by have := hc.2.2.2.2; omega)
    have he := mWs_at (ad := mAd sz ext) (dA := dA) (sz := sz) hl
    rw [cell_o hb hc.2.2.2.2] at he
    have hsz : ∀ H1 : Heap, va_P D vwCl ((mWs (mAd sz ext) dA sz S).set a (sz + a, .inr (ci, (fls (mAd sz ext) ci S a).set j (.int v)))) H1 → mCell (mAd sz ext) dA (setI S a j v) a = .inr (ci, (fls (mAd sz ext) ci S a).set j (.int v)) := fun H1 _ => by
      have e : fls (mAd sz ext) ci (setI S a j v) a = (fls (mAd sz ext) ci S a).set j (.int v) := fls_set hj (by rw [fvl_i (by rw [hk]; rfl)]; unfold setI; rw [setIr_at, up1_eq]) (fun i hi => fvl_I hi)
      rw [← e]
      exact cell_o (S := setI S a j v) hb hc.2.2.2.2
    show W p l e R s m args below meth c H locs _ _ Q (F0 m pc M (Value.int v :: Value.ref (mAd sz ext a) :: st.map (cv (mAd sz ext))))
    rw [had]
    exact wa_put (ws := mWs (mAd sz ext) dA sz S) C.1 C.2.1 C.2.2.2.1 hc C.2.2.1 C.2.2.2.2.1 hR.1 hR.2.1 hS a he j hj (C.2.2.2.1 _ hw) (Or.inr hf) (by rw [hk]; rfl) (by rw [hk]; rfl) (by rw [fls_len]; exact hj) d (fun H1 locs1 hP hD hS1 hz => h _ _ _ hK H1 locs1 M ((same_Ir S a _).rep hR hP hD (hsz H1 hP) hz) hS1 hL hM hn)
  · exact hK.elim
abbrev o_putZ (ci j : Nat) (K : mK) : mK := fun ls st S => match st with
  | .int v :: .ref a :: st => gd (Nat.beq (sH S a).1 ci) ((v = 0 ∨ v = 1) ∧ K ls st (setI S a j v))
  | _ => False
theorem m_putZ {κ : mX} {cc : ByteArray} {own : String} {dep : Nat} (C : mOk κ cc own dep) {pc : Nat} {ci j index : Nat} {Cn : String} {T : u_T} {K : mK} (d : decode cc pc = .ok (.putfield index, 3)) (hc : mCls ci Cn T) (hj : j < mN ci) (hw : Cond.fieldLink own index (T j).1 (T j).2.1 (T j).2.2.1 ∈ mU) (hk : mTy ci j = .boolean) (hf : (T j).2.2.2 = false) (h : mAt κ (pc + 3) K) : mAt κ pc (o_putZ ci j K) := by
  obtain ⟨⟨p, l, e, R, s⟩, ⟨m, args, below, meth, c⟩, ⟨D, dA, sz, ext, adV⟩, ⟨n0, w0, mc, ms⟩, Q⟩ := κ
  intro ls st S hK H locs M hR hS hL hM hn
  unfold o_putZ at hK
  split at hK
  · rename_i v a st
    obtain ⟨hb, hK⟩ := gd_of hK
    obtain ⟨hz0, hK⟩ := hK
    have hb := beq_of hb
    obtain ⟨hl, had⟩ := sH_lt hR hb (by have := hc.2.2.2.2; omega)
    have he := mWs_at (ad := mAd sz ext) (dA := dA) (sz := sz) hl
    rw [cell_o hb hc.2.2.2.2] at he
    have hsz : ∀ H1 : Heap, va_P D vwCl ((mWs (mAd sz ext) dA sz S).set a (sz + a, .inr (ci, (fls (mAd sz ext) ci S a).set j (.int v)))) H1 → mCell (mAd sz ext) dA (setI S a j v) a = .inr (ci, (fls (mAd sz ext) ci S a).set j (.int v)) := fun H1 _ => by
      have e : fls (mAd sz ext) ci (setI S a j v) a = (fls (mAd sz ext) ci S a).set j (.int v) := fls_set hj (by rw [fvl_i (by rw [hk]; rfl)]; unfold setI; rw [setIr_at, up1_eq]) (fun i hi => fvl_I hi)
      rw [← e]
      exact cell_o (S := setI S a j v) hb hc.2.2.2.2
    show W p l e R s m args below meth c H locs _ _ Q (F0 m pc M (Value.int v :: Value.ref (mAd sz ext a) :: st.map (cv (mAd sz ext))))
    rw [had]
    exact wa_put (ws := mWs (mAd sz ext) dA sz S) C.1 C.2.1 C.2.2.2.1 hc C.2.2.1 C.2.2.2.2.1 hR.1 hR.2.1 hS a he j hj (C.2.2.2.1 _ hw) (Or.inl hf) (by rw [hk]; rcases hz0 with rfl | rfl <;> rfl) (by rw [hk]; rcases hz0 with rfl | rfl <;> rfl) (by rw [fls_len]; exact hj) d (fun H1 locs1 hP hD hS1 hz => h _ _ _ hK H1 locs1 M ((same_Ir S a _).rep hR hP hD (hsz H1 hP) hz) hS1 hL hM hn)
  · exact hK.elim
theorem m_putZF {κ : mX} {cc : ByteArray} {own : String} {dep : Nat} (C : mOk κ cc own dep) {pc : Nat} {ci j index : Nat} {Cn : String} {T : u_T} {K : mK} (d : decode cc pc = .ok (.putfield index, 3)) (hc : mCls ci Cn T) (hj : j < mN ci) (hw : Cond.fieldLink own index (T j).1 (T j).2.1 (T j).2.2.1 ∈ mU) (hk : mTy ci j = .boolean) (hf : (T j).2.2.2 = true ∧ (mMeth κ).name = "<init>" ∧ (T j).1 = own) (h : mAt κ (pc + 3) K) : mAt κ pc (o_putZ ci j K) := by
  obtain ⟨⟨p, l, e, R, s⟩, ⟨m, args, below, meth, c⟩, ⟨D, dA, sz, ext, adV⟩, ⟨n0, w0, mc, ms⟩, Q⟩ := κ
  intro ls st S hK H locs M hR hS hL hM hn
  unfold o_putZ at hK
  split at hK
  · rename_i v a st
    obtain ⟨hb, hK⟩ := gd_of hK
    obtain ⟨hz0, hK⟩ := hK
    have hb := beq_of hb
    obtain ⟨hl, had⟩ := sH_lt hR hb (by have := hc.2.2.2.2; omega)
    have he := mWs_at (ad := mAd sz ext) (dA := dA) (sz := sz) hl
    rw [cell_o hb hc.2.2.2.2] at he
    have hsz : ∀ H1 : Heap, va_P D vwCl ((mWs (mAd sz ext) dA sz S).set a (sz + a, .inr (ci, (fls (mAd sz ext) ci S a).set j (.int v)))) H1 → mCell (mAd sz ext) dA (setI S a j v) a = .inr (ci, (fls (mAd sz ext) ci S a).set j (.int v)) := fun H1 _ => by
      have e : fls (mAd sz ext) ci (setI S a j v) a = (fls (mAd sz ext) ci S a).set j (.int v) := fls_set hj (by rw [fvl_i (by rw [hk]; rfl)]; unfold setI; rw [setIr_at, up1_eq]) (fun i hi => fvl_I hi)
      rw [← e]
      exact cell_o (S := setI S a j v) hb hc.2.2.2.2
    show W p l e R s m args below meth c H locs _ _ Q (F0 m pc M (Value.int v :: Value.ref (mAd sz ext a) :: st.map (cv (mAd sz ext))))
    rw [had]
    exact wa_put (ws := mWs (mAd sz ext) dA sz S) C.1 C.2.1 C.2.2.2.1 hc C.2.2.1 C.2.2.2.2.1 hR.1 hR.2.1 hS a he j hj (C.2.2.2.1 _ hw) (Or.inr hf) (by rw [hk]; rcases hz0 with rfl | rfl <;> rfl) (by rw [hk]; rcases hz0 with rfl | rfl <;> rfl) (by rw [fls_len]; exact hj) d (fun H1 locs1 hP hD hS1 hz => h _ _ _ hK H1 locs1 M ((same_Ir S a _).rep hR hP hD (hsz H1 hP) hz) hS1 hL hM hn)
  · exact hK.elim
abbrev o_putJ (ci j : Nat) (K : mK) : mK := fun ls st S => match st with
  | .long v :: .ref a :: st => gd (Nat.beq (sH S a).1 ci) (K ls st (setJ S a j v))
  | _ => False
theorem m_putJ {κ : mX} {cc : ByteArray} {own : String} {dep : Nat} (C : mOk κ cc own dep) {pc : Nat} {ci j index : Nat} {Cn : String} {T : u_T} {K : mK} (d : decode cc pc = .ok (.putfield index, 3)) (hc : mCls ci Cn T) (hj : j < mN ci) (hw : Cond.fieldLink own index (T j).1 (T j).2.1 (T j).2.2.1 ∈ mU) (hk : mTy ci j = .long) (hf : (T j).2.2.2 = false) (h : mAt κ (pc + 3) K) : mAt κ pc (o_putJ ci j K) := by
  obtain ⟨⟨p, l, e, R, s⟩, ⟨m, args, below, meth, c⟩, ⟨D, dA, sz, ext, adV⟩, ⟨n0, w0, mc, ms⟩, Q⟩ := κ
  intro ls st S hK H locs M hR hS hL hM hn
  unfold o_putJ at hK
  split at hK
  · rename_i v a st
    obtain ⟨hb, hK⟩ := gd_of hK
    have hb := beq_of hb
    obtain ⟨hl, had⟩ := sH_lt hR hb (by have := hc.2.2.2.2; omega)
    have he := mWs_at (ad := mAd sz ext) (dA := dA) (sz := sz) hl
    rw [cell_o hb hc.2.2.2.2] at he
    have hsz : ∀ H1 : Heap, va_P D vwCl ((mWs (mAd sz ext) dA sz S).set a (sz + a, .inr (ci, (fls (mAd sz ext) ci S a).set j (.long v)))) H1 → mCell (mAd sz ext) dA (setJ S a j v) a = .inr (ci, (fls (mAd sz ext) ci S a).set j (.long v)) := fun H1 _ => by
      have e : fls (mAd sz ext) ci (setJ S a j v) a = (fls (mAd sz ext) ci S a).set j (.long v) := fls_set hj (by rw [fvl_l hk]; unfold setJ; rw [setJr_at, up1_eq]) (fun i hi => fvl_J hi)
      rw [← e]
      exact cell_o (S := setJ S a j v) hb hc.2.2.2.2
    show W p l e R s m args below meth c H locs _ _ Q (F0 m pc M (Value.long v :: Value.ref (mAd sz ext a) :: st.map (cv (mAd sz ext))))
    rw [had]
    exact wa_put (ws := mWs (mAd sz ext) dA sz S) C.1 C.2.1 C.2.2.2.1 hc C.2.2.1 C.2.2.2.2.1 hR.1 hR.2.1 hS a he j hj (C.2.2.2.1 _ hw) (Or.inl hf) (by rw [hk]; rfl) (by rw [hk]; rfl) (by rw [fls_len]; exact hj) d (fun H1 locs1 hP hD hS1 hz => h _ _ _ hK H1 locs1 M ((same_Jr S a _).rep hR hP hD (hsz H1 hP) hz) hS1 hL hM hn)
  · exact hK.elim
theorem m_putJF {κ : mX} {cc : ByteArray} {own : String} {dep : Nat} (C : mOk κ cc own dep) {pc : Nat} {ci j index : Nat} {Cn : String} {T : u_T} {K : mK} (d : decode cc pc = .ok (.putfield index, 3)) (hc : mCls ci Cn T) (hj : j < mN ci) (hw : Cond.fieldLink own index (T j).1 (T j).2.1 (T j).2.2.1 ∈ mU) (hk : mTy ci j = .long) (hf : (T j).2.2.2 = true ∧ (mMeth κ).name = "<init>" ∧ (T j).1 = own) (h : mAt κ (pc + 3) K) : mAt κ pc (o_putJ ci j K) := by
  obtain ⟨⟨p, l, e, R, s⟩, ⟨m, args, below, meth, c⟩, ⟨D, dA, sz, ext, adV⟩, ⟨n0, w0, mc, ms⟩, Q⟩ := κ
  intro ls st S hK H locs M hR hS hL hM hn
  unfold o_putJ at hK
  split at hK
  · rename_i v a st
    obtain ⟨hb, hK⟩ := gd_of hK
    have hb := beq_of hb
    obtain ⟨hl, had⟩ := sH_lt hR hb (by have := hc.2.2.2.2; omega)
    have he := mWs_at (ad := mAd sz ext) (dA := dA) (sz := sz) hl
    rw [cell_o hb hc.2.2.2.2] at he
    have hsz : ∀ H1 : Heap, va_P D vwCl ((mWs (mAd sz ext) dA sz S).set a (sz + a, .inr (ci, (fls (mAd sz ext) ci S a).set j (.long v)))) H1 → mCell (mAd sz ext) dA (setJ S a j v) a = .inr (ci, (fls (mAd sz ext) ci S a).set j (.long v)) := fun H1 _ => by
      have e : fls (mAd sz ext) ci (setJ S a j v) a = (fls (mAd sz ext) ci S a).set j (.long v) := fls_set hj (by rw [fvl_l hk]; unfold setJ; rw [setJr_at, up1_eq]) (fun i hi => fvl_J hi)
      rw [← e]
      exact cell_o (S := setJ S a j v) hb hc.2.2.2.2
    show W p l e R s m args below meth c H locs _ _ Q (F0 m pc M (Value.long v :: Value.ref (mAd sz ext a) :: st.map (cv (mAd sz ext))))
    rw [had]
    exact wa_put (ws := mWs (mAd sz ext) dA sz S) C.1 C.2.1 C.2.2.2.1 hc C.2.2.1 C.2.2.2.2.1 hR.1 hR.2.1 hS a he j hj (C.2.2.2.1 _ hw) (Or.inr hf) (by rw [hk]; rfl) (by rw [hk]; rfl) (by rw [fls_len]; exact hj) d (fun H1 locs1 hP hD hS1 hz => h _ _ _ hK H1 locs1 M ((same_Jr S a _).rep hR hP hD (hsz H1 hP) hz) hS1 hL hM hn)
  · exact hK.elim
